/-! Every run of the small machine is a run of the machine. -/
/-- how a frame may end, with the goal Q -/
def ab_End (K : abK) (p : Program) (l : Launch) (e : Env) (R : Room) (s : State) (m : MethodId) (args : Array Value) (below : List Frame) (meth : Method) (c : Code) (Q : State → Prop) (q : abM) (k n : Nat) (v : Option Value) (sh : abZ) (D : abD) : Prop :=
  ∀ (pc : Nat) (ls : Array Slot) (H : Heap) (locs : List Loc), ab_W K sh D H → va_S (ab_A K) s.heap H locs →
    (∀ (x : Int32) (ty : FieldType), v = some (.int x) → decode q.2.1 pc = .ok (.ireturn, 1) → q.2.2.2.1 = some ty → narrow ty (.int x) = .int x → W p l e R s m args below meth c H locs k n Q (F0 m pc ls [.int x])) ∧
    (∀ x : Int64, v = some (.long x) → decode q.2.1 pc = .ok (.lreturn, 1) → q.2.2.2.1 = some .long → W p l e R s m args below meth c H locs k n Q (F0 m pc ls [.long x])) ∧
    (v = none → decode q.2.1 pc = .ok (.return_, 1) → q.2.2.2.1 = none → W p l e R s m args below meth c H locs k n Q (F0 m pc ls []))
def ab_P (K : abK) (l : Launch) (n : Nat) : Prop :=
  ∀ (d M pc : Nat) (lv : abL) (st : List Value) (sh : abZ) (D : abD) (v : Option Value) (sh' : abZ) (D' : abD), ab_ex (kX K) n d M pc lv st sh D = some (v, sh', D') → ∀ q : abM, ab_ms[M]? = some q →
  ∀ (p : Program) (e : Env) (R : Room) (s : State) (m : MethodId) (args : Array Value) (below : List Frame) (meth : Method) (c : Code) (Q : State → Prop) (n0 S0 : Nat), ab_C K p R s m args meth c q (ab_ini.getD M 99) → d + 1 ≤ R.frames ∧ 64 * (d + 1) ≤ R.locals → s.heap.size = kb K + n0 → n0 ≤ sh.length → S0 ≤ ab_nS sh → sh'.length - n0 ≤ R.cells → ab_nS sh' - S0 ≤ R.slots →
  ab_End K p l e R s m args below meth c Q q (sh'.length - n0) (ab_nS sh' - S0) v sh' D' → ab_G K p l e R s m args below meth c (sh.length - n0) (ab_nS sh - S0) Q q.2.2.1 sh (pc, lv, st, D)
theorem ab_met {K : abK} {l : Launch} {n : Nat} (hP : ab_P K l n) {d M : Nat} {as : List Value} {sh sh' : abZ} {D D' : abD} {v : Option Value} {q : abM} (hq : ab_ms[M]? = some q) (hpl : plainFor q.1 = true) (hcls : q.1.cls = ab_own1 q) (hw : ab_w as ≤ q.2.2.1) (h : ab_ex (kX K) n d M 0 (lv_args 0 as) [] sh D = some (v, sh', D')) :
    Met l q.1 (ab_ws q) (ab_rm d (sh'.length - sh.length) (ab_nS sh' - ab_nS sh)) (ab_Pc K sh D as) (ab_Qc K v sh' D') (sh'.length - sh.length) (ab_nS sh' - ab_nS sh) (ab_A K) := by
  refine ab_ofW (cc := q.2.1) (maxL := q.2.2.1) (ret := q.2.2.2.1) hpl rfl ?_
  intro p e s m args below meth c s₁ B hml hv
  obtain ⟨rfl, hsz, hE, hW⟩ := hv
  have hx := B.exec
  have hb := B.bytes
  have hr := B.returns
  have hts := atoms_spec (ws := ab_ws q) B.pre
  have hown : s.vm.findClass (ab_own1 q) = some m.cls := by rw [← hcls]; exact findClass_of_methodNamed B.named
  have hlocks := B.notSynchronized
  have hname := (name_of_methodNamed B.named B.method).1
  have hini : ab_ini.getD M 99 < 13 → meth.name = "<init>" ∧ ab_own1 q = ab_own.getD (ab_ini.getD M 99) "" := by
    intro h13
    rcases ab_ini_at hq with h1 | h1
    · omega
    · exact ⟨by rw [hname]; exact h1.1, by rw [ab_own1, h1.2]⟩
  have C : ab_C K p (ab_rm d (sh'.length - sh.length) (ab_nS sh' - ab_nS sh)) s m (as.map (ab_cv K)).toArray meth c q (ab_ini.getD M 99) := ⟨⟨hx, hb, hml, hown⟩, fun w hw => hts w (List.mem_cons_of_mem _ hw), hE, hini⟩
  rw [lg_entry_eq]
  have hl := lv_entry (as.map (ab_cv K)) (n := q.2.2.1) (by rw [ab_sl_len hE.2.2.1]; exact hw)
  rw [ab_args_cv hE.2.2.1] at hl
  have hg := hP d M 0 (lv_args 0 as) [] sh D v sh' D' h q hq p e (ab_rm d (sh'.length - sh.length) (ab_nS sh' - ab_nS sh)) s m (as.map (ab_cv K)).toArray below meth c (MQ below (ab_Qc K v sh' D') (as.map (ab_cv K)).toArray s (sh'.length - sh.length) (ab_nS sh' - ab_nS sh) (ab_A K)) sh.length (ab_nS sh) C ⟨Nat.le_refl _, Nat.le_refl _⟩ hsz (Nat.le_refl _) (Nat.le_refl _) (Nat.le_refl _) (Nat.le_refl _) ?_
  · have hg2 := hg _ s.heap [] hl hW va_S.rf
    rw [Nat.sub_self, Nat.sub_self] at hg2
    exact hg2
  · intro pc ls H locs hw2 hS2
    refine ⟨fun x ty hv1 hd hty hn => ?_, fun x hv1 hd hty => ?_, fun hv1 hd hty => ?_⟩
    · exact W.zret hx hb (hr.trans hty) hn (fun t ht _ => ⟨by rw [hv1]; rfl, by rw [ht]; exact hw2, hS2.F ht⟩) hS2.2.2 hd
    · exact W.lret hx hb (hr.trans hty) (fun t ht _ => ⟨by rw [hv1]; rfl, by rw [ht]; exact hw2, hS2.F ht⟩) hS2.2.2 hd
    · exact W.vret hx hb (hr.trans hty) (fun t ht _ => ⟨by rw [hv1]; rfl, by rw [ht]; exact hw2, hS2.F ht⟩) hS2.2.2 hd
theorem ab_sound (K : abK) (l : Launch) : ∀ n, ab_P K l n := by
  intro n
  induction n with
  | zero => intro d M pc lv st sh D v sh' D' h; cases h
  | succ n ih =>
    intro d M pc lv st sh D v sh' D' h q hq p e R s m args below meth c Q n0 S0 hC hR hsz hn0 hS0 hcl hsl hEnd
    have hC0 := hC
    obtain ⟨⟨hx, hb, hml, hown⟩, hts, hE, hini⟩ := hC
    rw [ab_ex_s] at h
    unfold ab_F at h
    rw [hq] at h
    dsimp only at h
    split at h
    · cases h
    · rename_i z hz
      have hz1 : z.1 = pc := by simpa using List.find?_some hz
      have hz2 := List.mem_of_find?_eq_some hz
      have hok := List.all_eq_true.mp (ab_q_ok hq) z hz2
      unfold ab_ok at hok
      rw [Bool.and_eq_true, hz1] at hok
      have hd : decode q.2.1 pc = .ok (z.2.1, z.2.2.1) := of_decide_eq_true hok.1
      have ha := hok.2
      have hfr : 1 ≤ R.frames := by omega
      have hlo : 64 ≤ R.locals := by omega
      generalize ho : ab_st1 (kX K) q.2.2.1 (ab_ini.getD M 99) q.2.2.2.1 sh z.2.1 z.2.2.1 z.2.2.2 pc lv st D = o at h
      cases o with
      | none => cases h
      | some o =>
        rcases ab_st1_k ho with ⟨S, rfl, hS0'⟩ | ⟨kd, M2, pl, cl, rfl, hlen, hcall, hk⟩ | ⟨hlen, hr⟩ | ⟨hlt, hal⟩
        · refine ab_st0_ok hx hb hml hown hts hE hfr hlo hini hd ha hS0' ?_
          have hih := ih d M S.1 _ _ sh _ v sh' D' h q hq p e R s m args below meth c Q n0 S0 hC0 hR hsz hn0 hS0 hcl hsl hEnd
          exact fun ls H locs hl hw hS => hih ls H locs (ab_msk_has hl) hw hS
        · unfold ab_nxt at h
          dsimp only at h
          split at h
          · cases h
          · rename_i d'
            split at h
            · cases h
            · rename_i q2 hq2
              split at h
              · cases h
              · rename_i hw2
                split at h
                · cases h
                · rename_i w hw
                  obtain ⟨w1, w2, w3⟩ := w
                  obtain ⟨c1, c2, c3⟩ := cl
                  have hM2 : c1 = M2 := by
                    unfold ab_call at hcall
                    split at hcall
                    · cases hcall
                    · split at hcall
                      · split at hcall
                        · have := congrArg (fun z => z.1) (Option.some.inj hcall); exact this.symm
                        · cases hcall
                      · split at hcall
                        · split at hcall
                          · have := congrArg (fun z => z.1) (Option.some.inj hcall); exact this.symm
                          · cases hcall
                        · cases hcall
                  subst hM2
                  have hmp0 : (ab_mp.getD c1 (9, 0, 0, 0, 0)).1 = kd := by
                    unfold ab_call at hcall
                    split at hcall
                    · cases hcall
                    · rename_i hnn
                      by_cases zz : (ab_mp.getD c1 (9, 0, 0, 0, 0)).1 = kd
                      · exact zz
                      · exact absurd (Or.inr zz) hnn
                  have h9 : kd ≠ 9 := by rcases hk with h | h | h <;> omega
                  have hmok := ab_mok_s (ab_mp_at hq2 hmp0 h9)
                  have h13 : q2.2.2.2.2.1 ≠ 13 := ab_not13 hq2 hmp0 h9
                  have g1 := ab_grow (kX K) n _ _ _ _ _ _ _ _ _ _ hw
                  have g2 := ab_grow (kX K) n _ _ _ _ _ _ _ _ _ _ h
                  dsimp only at g2
                  have hMet := ab_met (l := l) ih hq2 hmok.2.2.2.2.2.2.1 hmok.2.2.2.1 (Nat.not_lt.mp hw2) hw
                  rw [hlen] at hd
                  have e1 : sh.length - n0 + (w2.length - sh.length) = w2.length - n0 := by omega
                  have e2 : ab_nS sh - S0 + (ab_nS w2 - ab_nS sh) = ab_nS w2 - S0 := by omega
                  refine ab_w_call (d := d') (ix' := 0) (len := 3) hx hb hml hown hts hE ⟨by omega, by omega⟩ hd ha hcall hk hq2 h13 hMet (by omega) ⟨by omega, by omega⟩ ?_
                  rw [e1, e2]
                  have hih := ih (d' + 1) M (pc + 3) _ _ w2 w3 v sh' D' h q hq p e R s m args below meth c Q n0 S0 hC0 hR hsz (by omega) (by omega) hcl hsl hEnd
                  exact fun ls H locs hl hw hS => hih ls H locs (ab_msk_has hl) hw hS
        · rw [hlen] at hd
          rcases hr with ⟨hi, x, ty, rfl, hst, hrt, hnar⟩ | ⟨hi, hrt, x, rfl, hst⟩ | ⟨hi, hrt, rfl, hst⟩
          · have h1 := Option.some.inj h
            cases h1
            subst hst
            rw [hi] at hd
            exact fun ls H locs hl hw hS => ((hEnd pc ls H locs hw hS).1 x ty rfl hd hrt hnar)
          · have h1 := Option.some.inj h
            cases h1
            subst hst
            rw [hi] at hd
            exact fun ls H locs hl hw hS => ((hEnd pc ls H locs hw hS).2.1 x rfl hd hrt)
          · have h1 := Option.some.inj h
            cases h1
            subst hst
            rw [hi] at hd
            exact fun ls H locs hl hw hS => ((hEnd pc ls H locs hw hS).2.2 rfl hd hrt)
        · have key : ∀ (zz : Nat × Nat) (S : abS), o = .inl (sh ++ [zz], S) → (sh.length - n0 + 1 ≤ R.cells ∧ ab_nS sh - S0 + zz.2 ≤ R.slots) ∧ ab_G K p l e R s m args below meth c (sh.length - n0 + 1) (ab_nS sh - S0 + zz.2) Q q.2.2.1 (sh ++ [zz]) S := by
            intro zz S e0
            clear hal
            subst e0
            have g2 := ab_grow (kX K) n _ _ _ _ _ _ _ _ _ _ h
            rw [ab_nS_app] at g2
            have hlen2 : (sh ++ [zz]).length = sh.length + 1 := by simp
            dsimp only at g2
            rw [hlen2] at g2
            have e1 : (sh ++ [zz]).length - n0 = sh.length - n0 + 1 := by omega
            have e2 : ab_nS (sh ++ [zz]) - S0 = ab_nS sh - S0 + zz.2 := by rw [ab_nS_app]; omega
            refine ⟨⟨by omega, by omega⟩, ?_⟩
            have hih := ih d M S.1 _ _ (sh ++ [zz]) _ v sh' D' h q hq p e R s m args below meth c Q n0 S0 hC0 hR hsz (by omega) (by rw [ab_nS_app]; omega) hcl hsl hEnd
            rw [e1, e2] at hih
            exact fun ls H locs hl hw hS => hih ls H locs (ab_msk_has hl) hw hS
          rcases hal with ⟨ix, ci, pl, qc, hi, hlen, haa, hqc, e0⟩ | ⟨t, nn, r, hi, hlen, htag, hst, hn1, hn2, e0⟩ | ⟨ix, t, pl, nn, r, hi, hlen, haa, ht, hst, hn1, hn2, e0⟩
          · obtain ⟨k1, k2⟩ := key _ _ e0
            rw [hi, hlen] at hd
            rw [hi, haa] at ha
            exact ab_w_new hx hb hown hts hE hd ha hqc hlt (by omega) k1 k2
          · obtain ⟨k1, k2⟩ := key _ _ e0
            rw [hi, hlen] at hd
            subst hst
            exact ab_w_newa hx hb hts hE hd htag hn1 hn2 hlt (by omega) k1 k2
          · obtain ⟨k1, k2⟩ := key _ _ e0
            rw [hi, hlen] at hd
            rw [hi, haa] at ha
            subst hst
            exact ab_w_newq hx hb hown hts hE hd ha ht hn1 hn2 hlt (by omega) k1 k2
