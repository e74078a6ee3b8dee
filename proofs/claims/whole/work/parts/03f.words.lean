/-! A method's own words but its code, by their places. Written by wip/whole/gen_words.py. -/
def ab_mok2 (q : abM) (z : Nat × Nat × Nat × Nat × Nat) : Bool := ab_at z.2.2.1 (if z.1 = 1 then .static q.1 else .instanceMethod q.1) && (if z.1 = 0 then ab_at z.2.2.2.1 (.selects q.1.cls q.1 q.1) else true) && ab_at z.2.2.2.2 (.initialized q.1.cls) && decide (q.1.cls = ab_own.getD q.2.2.2.2.1 "") && (if z.1 = 2 then decide (q.1.name = "<init>") && decide (q.2.2.2.1 = none) else true) && decide (q.1.cls ≠ "java/lang/invoke/MethodHandle") && decide (q.1.cls ≠ "java/lang/invoke/VarHandle") && plainFor q.1 && decide (q.2.2.1 ≤ 40)
theorem ab_mp_0 : (((ab_ms.drop 0).take 16).zip ((ab_mp.drop 0).take 16)).all (fun z => ab_mok2 z.1 z.2) = true := by decide +kernel
theorem ab_mp_16 : (((ab_ms.drop 16).take 16).zip ((ab_mp.drop 16).take 16)).all (fun z => ab_mok2 z.1 z.2) = true := by decide +kernel
theorem ab_mp_32 : (((ab_ms.drop 32).take 16).zip ((ab_mp.drop 32).take 16)).all (fun z => ab_mok2 z.1 z.2) = true := by decide +kernel
theorem ab_mp_48 : (((ab_ms.drop 48).take 16).zip ((ab_mp.drop 48).take 16)).all (fun z => ab_mok2 z.1 z.2) = true := by decide +kernel
theorem ab_mp_64 : (((ab_ms.drop 64).take 16).zip ((ab_mp.drop 64).take 16)).all (fun z => ab_mok2 z.1 z.2) = true := by decide +kernel
theorem ab_mp_80 : (((ab_ms.drop 80).take 16).zip ((ab_mp.drop 80).take 16)).all (fun z => ab_mok2 z.1 z.2) = true := by decide +kernel
theorem ab_mp_96 : (((ab_ms.drop 96).take 16).zip ((ab_mp.drop 96).take 16)).all (fun z => ab_mok2 z.1 z.2) = true := by decide +kernel
theorem ab_mp_112 : (((ab_ms.drop 112).take 16).zip ((ab_mp.drop 112).take 16)).all (fun z => ab_mok2 z.1 z.2) = true := by decide +kernel
theorem ab_mp_128 : (((ab_ms.drop 128).take 16).zip ((ab_mp.drop 128).take 16)).all (fun z => ab_mok2 z.1 z.2) = true := by decide +kernel
theorem ab_mp_144 : (((ab_ms.drop 144).take 16).zip ((ab_mp.drop 144).take 16)).all (fun z => ab_mok2 z.1 z.2) = true := by decide +kernel
theorem ab_mp_160 : (((ab_ms.drop 160).take 16).zip ((ab_mp.drop 160).take 16)).all (fun z => ab_mok2 z.1 z.2) = true := by decide +kernel
theorem ab_mp_176 : (((ab_ms.drop 176).take 16).zip ((ab_mp.drop 176).take 16)).all (fun z => ab_mok2 z.1 z.2) = true := by decide +kernel
theorem ab_mp_192 : (((ab_ms.drop 192).take 16).zip ((ab_mp.drop 192).take 16)).all (fun z => ab_mok2 z.1 z.2) = true := by decide +kernel
theorem ab_mp_208 : (((ab_ms.drop 208).take 16).zip ((ab_mp.drop 208).take 16)).all (fun z => ab_mok2 z.1 z.2) = true := by decide +kernel
theorem ab_mp_224 : (((ab_ms.drop 224).take 16).zip ((ab_mp.drop 224).take 16)).all (fun z => ab_mok2 z.1 z.2) = true := by decide +kernel
theorem ab_mp_240 : (((ab_ms.drop 240).take 16).zip ((ab_mp.drop 240).take 16)).all (fun z => ab_mok2 z.1 z.2) = true := by decide +kernel
theorem ab_mp_256 : (((ab_ms.drop 256).take 16).zip ((ab_mp.drop 256).take 16)).all (fun z => ab_mok2 z.1 z.2) = true := by decide +kernel
theorem ab_mp_272 : (((ab_ms.drop 272).take 16).zip ((ab_mp.drop 272).take 16)).all (fun z => ab_mok2 z.1 z.2) = true := by decide +kernel
theorem ab_mp_288 : (((ab_ms.drop 288).take 16).zip ((ab_mp.drop 288).take 16)).all (fun z => ab_mok2 z.1 z.2) = true := by decide +kernel
theorem ab_mp_304 : (((ab_ms.drop 304).take 16).zip ((ab_mp.drop 304).take 16)).all (fun z => ab_mok2 z.1 z.2) = true := by decide +kernel
