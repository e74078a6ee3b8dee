theorem ab_mp_0 : (((ab_ms.drop 0).take 16).zip ((ab_mp.drop 0).take 16)).all (fun z => ab_mok z.1 z.2) = true := by decide +kernel
theorem ab_mp_16 : (((ab_ms.drop 16).take 16).zip ((ab_mp.drop 16).take 16)).all (fun z => ab_mok z.1 z.2) = true := by decide +kernel
theorem ab_mp_32 : (((ab_ms.drop 32).take 16).zip ((ab_mp.drop 32).take 16)).all (fun z => ab_mok z.1 z.2) = true := by decide +kernel
theorem ab_mp_48 : (((ab_ms.drop 48).take 16).zip ((ab_mp.drop 48).take 16)).all (fun z => ab_mok z.1 z.2) = true := by decide +kernel
theorem ab_mp_64 : (((ab_ms.drop 64).take 16).zip ((ab_mp.drop 64).take 16)).all (fun z => ab_mok z.1 z.2) = true := by decide +kernel
theorem ab_mp_80 : (((ab_ms.drop 80).take 16).zip ((ab_mp.drop 80).take 16)).all (fun z => ab_mok z.1 z.2) = true := by decide +kernel
theorem ab_mp_96 : (((ab_ms.drop 96).take 16).zip ((ab_mp.drop 96).take 16)).all (fun z => ab_mok z.1 z.2) = true := by decide +kernel
