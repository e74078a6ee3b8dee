theorem ab_mp_224 : (((ab_ms.drop 224).take 16).zip ((ab_mp.drop 224).take 16)).all (fun z => ab_mok z.1 z.2) = true := by decide +kernel
theorem ab_mp_240 : (((ab_ms.drop 240).take 16).zip ((ab_mp.drop 240).take 16)).all (fun z => ab_mok z.1 z.2) = true := by decide +kernel
theorem ab_mp_256 : (((ab_ms.drop 256).take 16).zip ((ab_mp.drop 256).take 16)).all (fun z => ab_mok z.1 z.2) = true := by decide +kernel
theorem ab_mp_272 : (((ab_ms.drop 272).take 16).zip ((ab_mp.drop 272).take 16)).all (fun z => ab_mok z.1 z.2) = true := by decide +kernel
theorem ab_mp_288 : (((ab_ms.drop 288).take 16).zip ((ab_mp.drop 288).take 16)).all (fun z => ab_mok z.1 z.2) = true := by decide +kernel
theorem ab_mp_304 : (((ab_ms.drop 304).take 16).zip ((ab_mp.drop 304).take 16)).all (fun z => ab_mok z.1 z.2) = true := by decide +kernel
