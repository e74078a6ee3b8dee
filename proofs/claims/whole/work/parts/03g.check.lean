theorem ab_mp_112 : (((ab_ms.drop 112).take 16).zip ((ab_mp.drop 112).take 16)).all (fun z => ab_mok z.1 z.2) = true := by decide +kernel
theorem ab_mp_128 : (((ab_ms.drop 128).take 16).zip ((ab_mp.drop 128).take 16)).all (fun z => ab_mok z.1 z.2) = true := by decide +kernel
theorem ab_mp_144 : (((ab_ms.drop 144).take 16).zip ((ab_mp.drop 144).take 16)).all (fun z => ab_mok z.1 z.2) = true := by decide +kernel
theorem ab_mp_160 : (((ab_ms.drop 160).take 16).zip ((ab_mp.drop 160).take 16)).all (fun z => ab_mok z.1 z.2) = true := by decide +kernel
theorem ab_mp_176 : (((ab_ms.drop 176).take 16).zip ((ab_mp.drop 176).take 16)).all (fun z => ab_mok z.1 z.2) = true := by decide +kernel
theorem ab_mp_192 : (((ab_ms.drop 192).take 16).zip ((ab_mp.drop 192).take 16)).all (fun z => ab_mok z.1 z.2) = true := by decide +kernel
theorem ab_mp_208 : (((ab_ms.drop 208).take 16).zip ((ab_mp.drop 208).take 16)).all (fun z => ab_mok z.1 z.2) = true := by decide +kernel
