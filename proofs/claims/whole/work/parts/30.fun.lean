def fX9_copy (o : Nat) (x0 : Nat) (h : abJ) : Option abJ := some (ab_wI (ab_wI (ab_wI (ab_wI h o 0 (h.1 x0 0)) o 1 (((ab_wI h o 0 (h.1 x0 0))).1 x0 1)) o 2 (((ab_wI (ab_wI h o 0 (h.1 x0 0)) o 1 (((ab_wI h o 0 (h.1 x0 0))).1 x0 1))).1 x0 2)) o 3 (((ab_wI (ab_wI (ab_wI h o 0 (h.1 x0 0)) o 1 (((ab_wI h o 0 (h.1 x0 0))).1 x0 1)) o 2 (((ab_wI (ab_wI h o 0 (h.1 x0 0)) o 1 (((ab_wI h o 0 (h.1 x0 0))).1 x0 1))).1 x0 2))).1 x0 3))
set_option maxRecDepth 20000 in
theorem sX9_copy_17_12 (d : Nat) (X : abX)  (h : abJ) (z : abJ) (hf : fX9_copy 17 12 h = some z) : ab_Ex X (d + 0) 117 0 [(0, .ref 17), (1, .ref 12)] [] ab_SH (ab_dD h) (fun r => r = (none, ab_SH, ab_dD z)) := by
  unfold fX9_copy at hf
  try simp only [Nat.reduceAdd] at hf
  refine ab_Ex.blk (k := 16) (pc' := 32) (lv' := [(0, .ref 17), (1, .ref 12)]) (st' := []) (sh' := ab_SH) (D' := ab_dD (ab_wI (ab_wI (ab_wI (ab_wI h 17 0 (h.1 12 0)) 17 1 (((ab_wI h 17 0 (h.1 12 0))).1 12 1)) 17 2 (((ab_wI (ab_wI h 17 0 (h.1 12 0)) 17 1 (((ab_wI h 17 0 (h.1 12 0))).1 12 1))).1 12 2)) 17 3 (((ab_wI (ab_wI (ab_wI h 17 0 (h.1 12 0)) 17 1 (((ab_wI h 17 0 (h.1 12 0))).1 12 1)) 17 2 (((ab_wI (ab_wI h 17 0 (h.1 12 0)) 17 1 (((ab_wI h 17 0 (h.1 12 0))).1 12 1))).1 12 2))).1 12 3))) (fun n => rfl) ?_
  obtain rfl := Option.some.inj hf
  exact ab_Ex.ret (fun n => rfl) rfl
set_option maxRecDepth 20000 in
theorem sX9_copy_18_12 (d : Nat) (X : abX)  (h : abJ) (z : abJ) (hf : fX9_copy 18 12 h = some z) : ab_Ex X (d + 0) 117 0 [(0, .ref 18), (1, .ref 12)] [] ab_SH (ab_dD h) (fun r => r = (none, ab_SH, ab_dD z)) := by
  unfold fX9_copy at hf
  try simp only [Nat.reduceAdd] at hf
  refine ab_Ex.blk (k := 16) (pc' := 32) (lv' := [(0, .ref 18), (1, .ref 12)]) (st' := []) (sh' := ab_SH) (D' := ab_dD (ab_wI (ab_wI (ab_wI (ab_wI h 18 0 (h.1 12 0)) 18 1 (((ab_wI h 18 0 (h.1 12 0))).1 12 1)) 18 2 (((ab_wI (ab_wI h 18 0 (h.1 12 0)) 18 1 (((ab_wI h 18 0 (h.1 12 0))).1 12 1))).1 12 2)) 18 3 (((ab_wI (ab_wI (ab_wI h 18 0 (h.1 12 0)) 18 1 (((ab_wI h 18 0 (h.1 12 0))).1 12 1)) 18 2 (((ab_wI (ab_wI h 18 0 (h.1 12 0)) 18 1 (((ab_wI h 18 0 (h.1 12 0))).1 12 1))).1 12 2))).1 12 3))) (fun n => rfl) ?_
  obtain rfl := Option.some.inj hf
  exact ab_Ex.ret (fun n => rfl) rfl
set_option maxRecDepth 20000 in
theorem sX9_copy_12_10 (d : Nat) (X : abX)  (h : abJ) (z : abJ) (hf : fX9_copy 12 10 h = some z) : ab_Ex X (d + 0) 117 0 [(0, .ref 12), (1, .ref 10)] [] ab_SH (ab_dD h) (fun r => r = (none, ab_SH, ab_dD z)) := by
  unfold fX9_copy at hf
  try simp only [Nat.reduceAdd] at hf
  refine ab_Ex.blk (k := 16) (pc' := 32) (lv' := [(0, .ref 12), (1, .ref 10)]) (st' := []) (sh' := ab_SH) (D' := ab_dD (ab_wI (ab_wI (ab_wI (ab_wI h 12 0 (h.1 10 0)) 12 1 (((ab_wI h 12 0 (h.1 10 0))).1 10 1)) 12 2 (((ab_wI (ab_wI h 12 0 (h.1 10 0)) 12 1 (((ab_wI h 12 0 (h.1 10 0))).1 10 1))).1 10 2)) 12 3 (((ab_wI (ab_wI (ab_wI h 12 0 (h.1 10 0)) 12 1 (((ab_wI h 12 0 (h.1 10 0))).1 10 1)) 12 2 (((ab_wI (ab_wI h 12 0 (h.1 10 0)) 12 1 (((ab_wI h 12 0 (h.1 10 0))).1 10 1))).1 10 2))).1 10 3))) (fun n => rfl) ?_
  obtain rfl := Option.some.inj hf
  exact ab_Ex.ret (fun n => rfl) rfl
set_option maxRecDepth 20000 in
theorem sX9_copy_58_12 (d : Nat) (X : abX)  (h : abJ) (z : abJ) (hf : fX9_copy 58 12 h = some z) : ab_Ex X (d + 0) 117 0 [(0, .ref 58), (1, .ref 12)] [] ab_SH (ab_dD h) (fun r => r = (none, ab_SH, ab_dD z)) := by
  unfold fX9_copy at hf
  try simp only [Nat.reduceAdd] at hf
  refine ab_Ex.blk (k := 16) (pc' := 32) (lv' := [(0, .ref 58), (1, .ref 12)]) (st' := []) (sh' := ab_SH) (D' := ab_dD (ab_wI (ab_wI (ab_wI (ab_wI h 58 0 (h.1 12 0)) 58 1 (((ab_wI h 58 0 (h.1 12 0))).1 12 1)) 58 2 (((ab_wI (ab_wI h 58 0 (h.1 12 0)) 58 1 (((ab_wI h 58 0 (h.1 12 0))).1 12 1))).1 12 2)) 58 3 (((ab_wI (ab_wI (ab_wI h 58 0 (h.1 12 0)) 58 1 (((ab_wI h 58 0 (h.1 12 0))).1 12 1)) 58 2 (((ab_wI (ab_wI h 58 0 (h.1 12 0)) 58 1 (((ab_wI h 58 0 (h.1 12 0))).1 12 1))).1 12 2))).1 12 3))) (fun n => rfl) ?_
  obtain rfl := Option.some.inj hf
  exact ab_Ex.ret (fun n => rfl) rfl
set_option maxRecDepth 20000 in
theorem sX9_copy_63_12 (d : Nat) (X : abX)  (h : abJ) (z : abJ) (hf : fX9_copy 63 12 h = some z) : ab_Ex X (d + 0) 117 0 [(0, .ref 63), (1, .ref 12)] [] ab_SH (ab_dD h) (fun r => r = (none, ab_SH, ab_dD z)) := by
  unfold fX9_copy at hf
  try simp only [Nat.reduceAdd] at hf
  refine ab_Ex.blk (k := 16) (pc' := 32) (lv' := [(0, .ref 63), (1, .ref 12)]) (st' := []) (sh' := ab_SH) (D' := ab_dD (ab_wI (ab_wI (ab_wI (ab_wI h 63 0 (h.1 12 0)) 63 1 (((ab_wI h 63 0 (h.1 12 0))).1 12 1)) 63 2 (((ab_wI (ab_wI h 63 0 (h.1 12 0)) 63 1 (((ab_wI h 63 0 (h.1 12 0))).1 12 1))).1 12 2)) 63 3 (((ab_wI (ab_wI (ab_wI h 63 0 (h.1 12 0)) 63 1 (((ab_wI h 63 0 (h.1 12 0))).1 12 1)) 63 2 (((ab_wI (ab_wI h 63 0 (h.1 12 0)) 63 1 (((ab_wI h 63 0 (h.1 12 0))).1 12 1))).1 12 2))).1 12 3))) (fun n => rfl) ?_
  obtain rfl := Option.some.inj hf
  exact ab_Ex.ret (fun n => rfl) rfl
set_option maxRecDepth 20000 in
theorem sX9_copy_12_58 (d : Nat) (X : abX)  (h : abJ) (z : abJ) (hf : fX9_copy 12 58 h = some z) : ab_Ex X (d + 0) 117 0 [(0, .ref 12), (1, .ref 58)] [] ab_SH (ab_dD h) (fun r => r = (none, ab_SH, ab_dD z)) := by
  unfold fX9_copy at hf
  try simp only [Nat.reduceAdd] at hf
  refine ab_Ex.blk (k := 16) (pc' := 32) (lv' := [(0, .ref 12), (1, .ref 58)]) (st' := []) (sh' := ab_SH) (D' := ab_dD (ab_wI (ab_wI (ab_wI (ab_wI h 12 0 (h.1 58 0)) 12 1 (((ab_wI h 12 0 (h.1 58 0))).1 58 1)) 12 2 (((ab_wI (ab_wI h 12 0 (h.1 58 0)) 12 1 (((ab_wI h 12 0 (h.1 58 0))).1 58 1))).1 58 2)) 12 3 (((ab_wI (ab_wI (ab_wI h 12 0 (h.1 58 0)) 12 1 (((ab_wI h 12 0 (h.1 58 0))).1 58 1)) 12 2 (((ab_wI (ab_wI h 12 0 (h.1 58 0)) 12 1 (((ab_wI h 12 0 (h.1 58 0))).1 58 1))).1 58 2))).1 58 3))) (fun n => rfl) ?_
  obtain rfl := Option.some.inj hf
  exact ab_Ex.ret (fun n => rfl) rfl
set_option maxRecDepth 20000 in
theorem sX9_copy_12_63 (d : Nat) (X : abX)  (h : abJ) (z : abJ) (hf : fX9_copy 12 63 h = some z) : ab_Ex X (d + 0) 117 0 [(0, .ref 12), (1, .ref 63)] [] ab_SH (ab_dD h) (fun r => r = (none, ab_SH, ab_dD z)) := by
  unfold fX9_copy at hf
  try simp only [Nat.reduceAdd] at hf
  refine ab_Ex.blk (k := 16) (pc' := 32) (lv' := [(0, .ref 12), (1, .ref 63)]) (st' := []) (sh' := ab_SH) (D' := ab_dD (ab_wI (ab_wI (ab_wI (ab_wI h 12 0 (h.1 63 0)) 12 1 (((ab_wI h 12 0 (h.1 63 0))).1 63 1)) 12 2 (((ab_wI (ab_wI h 12 0 (h.1 63 0)) 12 1 (((ab_wI h 12 0 (h.1 63 0))).1 63 1))).1 63 2)) 12 3 (((ab_wI (ab_wI (ab_wI h 12 0 (h.1 63 0)) 12 1 (((ab_wI h 12 0 (h.1 63 0))).1 63 1)) 12 2 (((ab_wI (ab_wI h 12 0 (h.1 63 0)) 12 1 (((ab_wI h 12 0 (h.1 63 0))).1 63 1))).1 63 2))).1 63 3))) (fun n => rfl) ?_
  obtain rfl := Option.some.inj hf
  exact ab_Ex.ret (fun n => rfl) rfl
set_option maxRecDepth 20000 in
theorem sX9_copy_12_20 (d : Nat) (X : abX)  (h : abJ) (z : abJ) (hf : fX9_copy 12 20 h = some z) : ab_Ex X (d + 0) 117 0 [(0, .ref 12), (1, .ref 20)] [] ab_SH (ab_dD h) (fun r => r = (none, ab_SH, ab_dD z)) := by
  unfold fX9_copy at hf
  try simp only [Nat.reduceAdd] at hf
  refine ab_Ex.blk (k := 16) (pc' := 32) (lv' := [(0, .ref 12), (1, .ref 20)]) (st' := []) (sh' := ab_SH) (D' := ab_dD (ab_wI (ab_wI (ab_wI (ab_wI h 12 0 (h.1 20 0)) 12 1 (((ab_wI h 12 0 (h.1 20 0))).1 20 1)) 12 2 (((ab_wI (ab_wI h 12 0 (h.1 20 0)) 12 1 (((ab_wI h 12 0 (h.1 20 0))).1 20 1))).1 20 2)) 12 3 (((ab_wI (ab_wI (ab_wI h 12 0 (h.1 20 0)) 12 1 (((ab_wI h 12 0 (h.1 20 0))).1 20 1)) 12 2 (((ab_wI (ab_wI h 12 0 (h.1 20 0)) 12 1 (((ab_wI h 12 0 (h.1 20 0))).1 20 1))).1 20 2))).1 20 3))) (fun n => rfl) ?_
  obtain rfl := Option.some.inj hf
  exact ab_Ex.ret (fun n => rfl) rfl
set_option maxRecDepth 20000 in
theorem sX9_copy_12_21 (d : Nat) (X : abX)  (h : abJ) (z : abJ) (hf : fX9_copy 12 21 h = some z) : ab_Ex X (d + 0) 117 0 [(0, .ref 12), (1, .ref 21)] [] ab_SH (ab_dD h) (fun r => r = (none, ab_SH, ab_dD z)) := by
  unfold fX9_copy at hf
  try simp only [Nat.reduceAdd] at hf
  refine ab_Ex.blk (k := 16) (pc' := 32) (lv' := [(0, .ref 12), (1, .ref 21)]) (st' := []) (sh' := ab_SH) (D' := ab_dD (ab_wI (ab_wI (ab_wI (ab_wI h 12 0 (h.1 21 0)) 12 1 (((ab_wI h 12 0 (h.1 21 0))).1 21 1)) 12 2 (((ab_wI (ab_wI h 12 0 (h.1 21 0)) 12 1 (((ab_wI h 12 0 (h.1 21 0))).1 21 1))).1 21 2)) 12 3 (((ab_wI (ab_wI (ab_wI h 12 0 (h.1 21 0)) 12 1 (((ab_wI h 12 0 (h.1 21 0))).1 21 1)) 12 2 (((ab_wI (ab_wI h 12 0 (h.1 21 0)) 12 1 (((ab_wI h 12 0 (h.1 21 0))).1 21 1))).1 21 2))).1 21 3))) (fun n => rfl) ?_
  obtain rfl := Option.some.inj hf
  exact ab_Ex.ret (fun n => rfl) rfl
set_option maxRecDepth 20000 in
theorem sX9_copy_12_22 (d : Nat) (X : abX)  (h : abJ) (z : abJ) (hf : fX9_copy 12 22 h = some z) : ab_Ex X (d + 0) 117 0 [(0, .ref 12), (1, .ref 22)] [] ab_SH (ab_dD h) (fun r => r = (none, ab_SH, ab_dD z)) := by
  unfold fX9_copy at hf
  try simp only [Nat.reduceAdd] at hf
  refine ab_Ex.blk (k := 16) (pc' := 32) (lv' := [(0, .ref 12), (1, .ref 22)]) (st' := []) (sh' := ab_SH) (D' := ab_dD (ab_wI (ab_wI (ab_wI (ab_wI h 12 0 (h.1 22 0)) 12 1 (((ab_wI h 12 0 (h.1 22 0))).1 22 1)) 12 2 (((ab_wI (ab_wI h 12 0 (h.1 22 0)) 12 1 (((ab_wI h 12 0 (h.1 22 0))).1 22 1))).1 22 2)) 12 3 (((ab_wI (ab_wI (ab_wI h 12 0 (h.1 22 0)) 12 1 (((ab_wI h 12 0 (h.1 22 0))).1 22 1)) 12 2 (((ab_wI (ab_wI h 12 0 (h.1 22 0)) 12 1 (((ab_wI h 12 0 (h.1 22 0))).1 22 1))).1 22 2))).1 22 3))) (fun n => rfl) ?_
  obtain rfl := Option.some.inj hf
  exact ab_Ex.ret (fun n => rfl) rfl
set_option maxRecDepth 20000 in
theorem sX9_copy_12_23 (d : Nat) (X : abX)  (h : abJ) (z : abJ) (hf : fX9_copy 12 23 h = some z) : ab_Ex X (d + 0) 117 0 [(0, .ref 12), (1, .ref 23)] [] ab_SH (ab_dD h) (fun r => r = (none, ab_SH, ab_dD z)) := by
  unfold fX9_copy at hf
  try simp only [Nat.reduceAdd] at hf
  refine ab_Ex.blk (k := 16) (pc' := 32) (lv' := [(0, .ref 12), (1, .ref 23)]) (st' := []) (sh' := ab_SH) (D' := ab_dD (ab_wI (ab_wI (ab_wI (ab_wI h 12 0 (h.1 23 0)) 12 1 (((ab_wI h 12 0 (h.1 23 0))).1 23 1)) 12 2 (((ab_wI (ab_wI h 12 0 (h.1 23 0)) 12 1 (((ab_wI h 12 0 (h.1 23 0))).1 23 1))).1 23 2)) 12 3 (((ab_wI (ab_wI (ab_wI h 12 0 (h.1 23 0)) 12 1 (((ab_wI h 12 0 (h.1 23 0))).1 23 1)) 12 2 (((ab_wI (ab_wI h 12 0 (h.1 23 0)) 12 1 (((ab_wI h 12 0 (h.1 23 0))).1 23 1))).1 23 2))).1 23 3))) (fun n => rfl) ?_
  obtain rfl := Option.some.inj hf
  exact ab_Ex.ret (fun n => rfl) rfl
set_option maxRecDepth 20000 in
theorem sX9_copy_12_24 (d : Nat) (X : abX)  (h : abJ) (z : abJ) (hf : fX9_copy 12 24 h = some z) : ab_Ex X (d + 0) 117 0 [(0, .ref 12), (1, .ref 24)] [] ab_SH (ab_dD h) (fun r => r = (none, ab_SH, ab_dD z)) := by
  unfold fX9_copy at hf
  try simp only [Nat.reduceAdd] at hf
  refine ab_Ex.blk (k := 16) (pc' := 32) (lv' := [(0, .ref 12), (1, .ref 24)]) (st' := []) (sh' := ab_SH) (D' := ab_dD (ab_wI (ab_wI (ab_wI (ab_wI h 12 0 (h.1 24 0)) 12 1 (((ab_wI h 12 0 (h.1 24 0))).1 24 1)) 12 2 (((ab_wI (ab_wI h 12 0 (h.1 24 0)) 12 1 (((ab_wI h 12 0 (h.1 24 0))).1 24 1))).1 24 2)) 12 3 (((ab_wI (ab_wI (ab_wI h 12 0 (h.1 24 0)) 12 1 (((ab_wI h 12 0 (h.1 24 0))).1 24 1)) 12 2 (((ab_wI (ab_wI h 12 0 (h.1 24 0)) 12 1 (((ab_wI h 12 0 (h.1 24 0))).1 24 1))).1 24 2))).1 24 3))) (fun n => rfl) ?_
  obtain rfl := Option.some.inj hf
  exact ab_Ex.ret (fun n => rfl) rfl
set_option maxRecDepth 20000 in
theorem sX9_copy_12_25 (d : Nat) (X : abX)  (h : abJ) (z : abJ) (hf : fX9_copy 12 25 h = some z) : ab_Ex X (d + 0) 117 0 [(0, .ref 12), (1, .ref 25)] [] ab_SH (ab_dD h) (fun r => r = (none, ab_SH, ab_dD z)) := by
  unfold fX9_copy at hf
  try simp only [Nat.reduceAdd] at hf
  refine ab_Ex.blk (k := 16) (pc' := 32) (lv' := [(0, .ref 12), (1, .ref 25)]) (st' := []) (sh' := ab_SH) (D' := ab_dD (ab_wI (ab_wI (ab_wI (ab_wI h 12 0 (h.1 25 0)) 12 1 (((ab_wI h 12 0 (h.1 25 0))).1 25 1)) 12 2 (((ab_wI (ab_wI h 12 0 (h.1 25 0)) 12 1 (((ab_wI h 12 0 (h.1 25 0))).1 25 1))).1 25 2)) 12 3 (((ab_wI (ab_wI (ab_wI h 12 0 (h.1 25 0)) 12 1 (((ab_wI h 12 0 (h.1 25 0))).1 25 1)) 12 2 (((ab_wI (ab_wI h 12 0 (h.1 25 0)) 12 1 (((ab_wI h 12 0 (h.1 25 0))).1 25 1))).1 25 2))).1 25 3))) (fun n => rfl) ?_
  obtain rfl := Option.some.inj hf
  exact ab_Ex.ret (fun n => rfl) rfl
set_option maxRecDepth 20000 in
theorem sX9_copy_12_26 (d : Nat) (X : abX)  (h : abJ) (z : abJ) (hf : fX9_copy 12 26 h = some z) : ab_Ex X (d + 0) 117 0 [(0, .ref 12), (1, .ref 26)] [] ab_SH (ab_dD h) (fun r => r = (none, ab_SH, ab_dD z)) := by
  unfold fX9_copy at hf
  try simp only [Nat.reduceAdd] at hf
  refine ab_Ex.blk (k := 16) (pc' := 32) (lv' := [(0, .ref 12), (1, .ref 26)]) (st' := []) (sh' := ab_SH) (D' := ab_dD (ab_wI (ab_wI (ab_wI (ab_wI h 12 0 (h.1 26 0)) 12 1 (((ab_wI h 12 0 (h.1 26 0))).1 26 1)) 12 2 (((ab_wI (ab_wI h 12 0 (h.1 26 0)) 12 1 (((ab_wI h 12 0 (h.1 26 0))).1 26 1))).1 26 2)) 12 3 (((ab_wI (ab_wI (ab_wI h 12 0 (h.1 26 0)) 12 1 (((ab_wI h 12 0 (h.1 26 0))).1 26 1)) 12 2 (((ab_wI (ab_wI h 12 0 (h.1 26 0)) 12 1 (((ab_wI h 12 0 (h.1 26 0))).1 26 1))).1 26 2))).1 26 3))) (fun n => rfl) ?_
  obtain rfl := Option.some.inj hf
  exact ab_Ex.ret (fun n => rfl) rfl
set_option maxRecDepth 20000 in
theorem sX9_copy_12_27 (d : Nat) (X : abX)  (h : abJ) (z : abJ) (hf : fX9_copy 12 27 h = some z) : ab_Ex X (d + 0) 117 0 [(0, .ref 12), (1, .ref 27)] [] ab_SH (ab_dD h) (fun r => r = (none, ab_SH, ab_dD z)) := by
  unfold fX9_copy at hf
  try simp only [Nat.reduceAdd] at hf
  refine ab_Ex.blk (k := 16) (pc' := 32) (lv' := [(0, .ref 12), (1, .ref 27)]) (st' := []) (sh' := ab_SH) (D' := ab_dD (ab_wI (ab_wI (ab_wI (ab_wI h 12 0 (h.1 27 0)) 12 1 (((ab_wI h 12 0 (h.1 27 0))).1 27 1)) 12 2 (((ab_wI (ab_wI h 12 0 (h.1 27 0)) 12 1 (((ab_wI h 12 0 (h.1 27 0))).1 27 1))).1 27 2)) 12 3 (((ab_wI (ab_wI (ab_wI h 12 0 (h.1 27 0)) 12 1 (((ab_wI h 12 0 (h.1 27 0))).1 27 1)) 12 2 (((ab_wI (ab_wI h 12 0 (h.1 27 0)) 12 1 (((ab_wI h 12 0 (h.1 27 0))).1 27 1))).1 27 2))).1 27 3))) (fun n => rfl) ?_
  obtain rfl := Option.some.inj hf
  exact ab_Ex.ret (fun n => rfl) rfl
set_option maxRecDepth 20000 in
theorem sX9_copy_12_28 (d : Nat) (X : abX)  (h : abJ) (z : abJ) (hf : fX9_copy 12 28 h = some z) : ab_Ex X (d + 0) 117 0 [(0, .ref 12), (1, .ref 28)] [] ab_SH (ab_dD h) (fun r => r = (none, ab_SH, ab_dD z)) := by
  unfold fX9_copy at hf
  try simp only [Nat.reduceAdd] at hf
  refine ab_Ex.blk (k := 16) (pc' := 32) (lv' := [(0, .ref 12), (1, .ref 28)]) (st' := []) (sh' := ab_SH) (D' := ab_dD (ab_wI (ab_wI (ab_wI (ab_wI h 12 0 (h.1 28 0)) 12 1 (((ab_wI h 12 0 (h.1 28 0))).1 28 1)) 12 2 (((ab_wI (ab_wI h 12 0 (h.1 28 0)) 12 1 (((ab_wI h 12 0 (h.1 28 0))).1 28 1))).1 28 2)) 12 3 (((ab_wI (ab_wI (ab_wI h 12 0 (h.1 28 0)) 12 1 (((ab_wI h 12 0 (h.1 28 0))).1 28 1)) 12 2 (((ab_wI (ab_wI h 12 0 (h.1 28 0)) 12 1 (((ab_wI h 12 0 (h.1 28 0))).1 28 1))).1 28 2))).1 28 3))) (fun n => rfl) ?_
  obtain rfl := Option.some.inj hf
  exact ab_Ex.ret (fun n => rfl) rfl
set_option maxRecDepth 20000 in
theorem sX9_copy_12_29 (d : Nat) (X : abX)  (h : abJ) (z : abJ) (hf : fX9_copy 12 29 h = some z) : ab_Ex X (d + 0) 117 0 [(0, .ref 12), (1, .ref 29)] [] ab_SH (ab_dD h) (fun r => r = (none, ab_SH, ab_dD z)) := by
  unfold fX9_copy at hf
  try simp only [Nat.reduceAdd] at hf
  refine ab_Ex.blk (k := 16) (pc' := 32) (lv' := [(0, .ref 12), (1, .ref 29)]) (st' := []) (sh' := ab_SH) (D' := ab_dD (ab_wI (ab_wI (ab_wI (ab_wI h 12 0 (h.1 29 0)) 12 1 (((ab_wI h 12 0 (h.1 29 0))).1 29 1)) 12 2 (((ab_wI (ab_wI h 12 0 (h.1 29 0)) 12 1 (((ab_wI h 12 0 (h.1 29 0))).1 29 1))).1 29 2)) 12 3 (((ab_wI (ab_wI (ab_wI h 12 0 (h.1 29 0)) 12 1 (((ab_wI h 12 0 (h.1 29 0))).1 29 1)) 12 2 (((ab_wI (ab_wI h 12 0 (h.1 29 0)) 12 1 (((ab_wI h 12 0 (h.1 29 0))).1 29 1))).1 29 2))).1 29 3))) (fun n => rfl) ?_
  obtain rfl := Option.some.inj hf
  exact ab_Ex.ret (fun n => rfl) rfl
set_option maxRecDepth 20000 in
theorem sX9_copy_20_17 (d : Nat) (X : abX)  (h : abJ) (z : abJ) (hf : fX9_copy 20 17 h = some z) : ab_Ex X (d + 0) 117 0 [(0, .ref 20), (1, .ref 17)] [] ab_SH (ab_dD h) (fun r => r = (none, ab_SH, ab_dD z)) := by
  unfold fX9_copy at hf
  try simp only [Nat.reduceAdd] at hf
  refine ab_Ex.blk (k := 16) (pc' := 32) (lv' := [(0, .ref 20), (1, .ref 17)]) (st' := []) (sh' := ab_SH) (D' := ab_dD (ab_wI (ab_wI (ab_wI (ab_wI h 20 0 (h.1 17 0)) 20 1 (((ab_wI h 20 0 (h.1 17 0))).1 17 1)) 20 2 (((ab_wI (ab_wI h 20 0 (h.1 17 0)) 20 1 (((ab_wI h 20 0 (h.1 17 0))).1 17 1))).1 17 2)) 20 3 (((ab_wI (ab_wI (ab_wI h 20 0 (h.1 17 0)) 20 1 (((ab_wI h 20 0 (h.1 17 0))).1 17 1)) 20 2 (((ab_wI (ab_wI h 20 0 (h.1 17 0)) 20 1 (((ab_wI h 20 0 (h.1 17 0))).1 17 1))).1 17 2))).1 17 3))) (fun n => rfl) ?_
  obtain rfl := Option.some.inj hf
  exact ab_Ex.ret (fun n => rfl) rfl
set_option maxRecDepth 20000 in
theorem sX9_copy_21_17 (d : Nat) (X : abX)  (h : abJ) (z : abJ) (hf : fX9_copy 21 17 h = some z) : ab_Ex X (d + 0) 117 0 [(0, .ref 21), (1, .ref 17)] [] ab_SH (ab_dD h) (fun r => r = (none, ab_SH, ab_dD z)) := by
  unfold fX9_copy at hf
  try simp only [Nat.reduceAdd] at hf
  refine ab_Ex.blk (k := 16) (pc' := 32) (lv' := [(0, .ref 21), (1, .ref 17)]) (st' := []) (sh' := ab_SH) (D' := ab_dD (ab_wI (ab_wI (ab_wI (ab_wI h 21 0 (h.1 17 0)) 21 1 (((ab_wI h 21 0 (h.1 17 0))).1 17 1)) 21 2 (((ab_wI (ab_wI h 21 0 (h.1 17 0)) 21 1 (((ab_wI h 21 0 (h.1 17 0))).1 17 1))).1 17 2)) 21 3 (((ab_wI (ab_wI (ab_wI h 21 0 (h.1 17 0)) 21 1 (((ab_wI h 21 0 (h.1 17 0))).1 17 1)) 21 2 (((ab_wI (ab_wI h 21 0 (h.1 17 0)) 21 1 (((ab_wI h 21 0 (h.1 17 0))).1 17 1))).1 17 2))).1 17 3))) (fun n => rfl) ?_
  obtain rfl := Option.some.inj hf
  exact ab_Ex.ret (fun n => rfl) rfl
set_option maxRecDepth 20000 in
theorem sX9_copy_22_17 (d : Nat) (X : abX)  (h : abJ) (z : abJ) (hf : fX9_copy 22 17 h = some z) : ab_Ex X (d + 0) 117 0 [(0, .ref 22), (1, .ref 17)] [] ab_SH (ab_dD h) (fun r => r = (none, ab_SH, ab_dD z)) := by
  unfold fX9_copy at hf
  try simp only [Nat.reduceAdd] at hf
  refine ab_Ex.blk (k := 16) (pc' := 32) (lv' := [(0, .ref 22), (1, .ref 17)]) (st' := []) (sh' := ab_SH) (D' := ab_dD (ab_wI (ab_wI (ab_wI (ab_wI h 22 0 (h.1 17 0)) 22 1 (((ab_wI h 22 0 (h.1 17 0))).1 17 1)) 22 2 (((ab_wI (ab_wI h 22 0 (h.1 17 0)) 22 1 (((ab_wI h 22 0 (h.1 17 0))).1 17 1))).1 17 2)) 22 3 (((ab_wI (ab_wI (ab_wI h 22 0 (h.1 17 0)) 22 1 (((ab_wI h 22 0 (h.1 17 0))).1 17 1)) 22 2 (((ab_wI (ab_wI h 22 0 (h.1 17 0)) 22 1 (((ab_wI h 22 0 (h.1 17 0))).1 17 1))).1 17 2))).1 17 3))) (fun n => rfl) ?_
  obtain rfl := Option.some.inj hf
  exact ab_Ex.ret (fun n => rfl) rfl
set_option maxRecDepth 20000 in
theorem sX9_copy_23_17 (d : Nat) (X : abX)  (h : abJ) (z : abJ) (hf : fX9_copy 23 17 h = some z) : ab_Ex X (d + 0) 117 0 [(0, .ref 23), (1, .ref 17)] [] ab_SH (ab_dD h) (fun r => r = (none, ab_SH, ab_dD z)) := by
  unfold fX9_copy at hf
  try simp only [Nat.reduceAdd] at hf
  refine ab_Ex.blk (k := 16) (pc' := 32) (lv' := [(0, .ref 23), (1, .ref 17)]) (st' := []) (sh' := ab_SH) (D' := ab_dD (ab_wI (ab_wI (ab_wI (ab_wI h 23 0 (h.1 17 0)) 23 1 (((ab_wI h 23 0 (h.1 17 0))).1 17 1)) 23 2 (((ab_wI (ab_wI h 23 0 (h.1 17 0)) 23 1 (((ab_wI h 23 0 (h.1 17 0))).1 17 1))).1 17 2)) 23 3 (((ab_wI (ab_wI (ab_wI h 23 0 (h.1 17 0)) 23 1 (((ab_wI h 23 0 (h.1 17 0))).1 17 1)) 23 2 (((ab_wI (ab_wI h 23 0 (h.1 17 0)) 23 1 (((ab_wI h 23 0 (h.1 17 0))).1 17 1))).1 17 2))).1 17 3))) (fun n => rfl) ?_
  obtain rfl := Option.some.inj hf
  exact ab_Ex.ret (fun n => rfl) rfl
set_option maxRecDepth 20000 in
theorem sX9_copy_24_17 (d : Nat) (X : abX)  (h : abJ) (z : abJ) (hf : fX9_copy 24 17 h = some z) : ab_Ex X (d + 0) 117 0 [(0, .ref 24), (1, .ref 17)] [] ab_SH (ab_dD h) (fun r => r = (none, ab_SH, ab_dD z)) := by
  unfold fX9_copy at hf
  try simp only [Nat.reduceAdd] at hf
  refine ab_Ex.blk (k := 16) (pc' := 32) (lv' := [(0, .ref 24), (1, .ref 17)]) (st' := []) (sh' := ab_SH) (D' := ab_dD (ab_wI (ab_wI (ab_wI (ab_wI h 24 0 (h.1 17 0)) 24 1 (((ab_wI h 24 0 (h.1 17 0))).1 17 1)) 24 2 (((ab_wI (ab_wI h 24 0 (h.1 17 0)) 24 1 (((ab_wI h 24 0 (h.1 17 0))).1 17 1))).1 17 2)) 24 3 (((ab_wI (ab_wI (ab_wI h 24 0 (h.1 17 0)) 24 1 (((ab_wI h 24 0 (h.1 17 0))).1 17 1)) 24 2 (((ab_wI (ab_wI h 24 0 (h.1 17 0)) 24 1 (((ab_wI h 24 0 (h.1 17 0))).1 17 1))).1 17 2))).1 17 3))) (fun n => rfl) ?_
  obtain rfl := Option.some.inj hf
  exact ab_Ex.ret (fun n => rfl) rfl
set_option maxRecDepth 20000 in
theorem sX9_copy_25_17 (d : Nat) (X : abX)  (h : abJ) (z : abJ) (hf : fX9_copy 25 17 h = some z) : ab_Ex X (d + 0) 117 0 [(0, .ref 25), (1, .ref 17)] [] ab_SH (ab_dD h) (fun r => r = (none, ab_SH, ab_dD z)) := by
  unfold fX9_copy at hf
  try simp only [Nat.reduceAdd] at hf
  refine ab_Ex.blk (k := 16) (pc' := 32) (lv' := [(0, .ref 25), (1, .ref 17)]) (st' := []) (sh' := ab_SH) (D' := ab_dD (ab_wI (ab_wI (ab_wI (ab_wI h 25 0 (h.1 17 0)) 25 1 (((ab_wI h 25 0 (h.1 17 0))).1 17 1)) 25 2 (((ab_wI (ab_wI h 25 0 (h.1 17 0)) 25 1 (((ab_wI h 25 0 (h.1 17 0))).1 17 1))).1 17 2)) 25 3 (((ab_wI (ab_wI (ab_wI h 25 0 (h.1 17 0)) 25 1 (((ab_wI h 25 0 (h.1 17 0))).1 17 1)) 25 2 (((ab_wI (ab_wI h 25 0 (h.1 17 0)) 25 1 (((ab_wI h 25 0 (h.1 17 0))).1 17 1))).1 17 2))).1 17 3))) (fun n => rfl) ?_
  obtain rfl := Option.some.inj hf
  exact ab_Ex.ret (fun n => rfl) rfl
set_option maxRecDepth 20000 in
theorem sX9_copy_26_17 (d : Nat) (X : abX)  (h : abJ) (z : abJ) (hf : fX9_copy 26 17 h = some z) : ab_Ex X (d + 0) 117 0 [(0, .ref 26), (1, .ref 17)] [] ab_SH (ab_dD h) (fun r => r = (none, ab_SH, ab_dD z)) := by
  unfold fX9_copy at hf
  try simp only [Nat.reduceAdd] at hf
  refine ab_Ex.blk (k := 16) (pc' := 32) (lv' := [(0, .ref 26), (1, .ref 17)]) (st' := []) (sh' := ab_SH) (D' := ab_dD (ab_wI (ab_wI (ab_wI (ab_wI h 26 0 (h.1 17 0)) 26 1 (((ab_wI h 26 0 (h.1 17 0))).1 17 1)) 26 2 (((ab_wI (ab_wI h 26 0 (h.1 17 0)) 26 1 (((ab_wI h 26 0 (h.1 17 0))).1 17 1))).1 17 2)) 26 3 (((ab_wI (ab_wI (ab_wI h 26 0 (h.1 17 0)) 26 1 (((ab_wI h 26 0 (h.1 17 0))).1 17 1)) 26 2 (((ab_wI (ab_wI h 26 0 (h.1 17 0)) 26 1 (((ab_wI h 26 0 (h.1 17 0))).1 17 1))).1 17 2))).1 17 3))) (fun n => rfl) ?_
  obtain rfl := Option.some.inj hf
  exact ab_Ex.ret (fun n => rfl) rfl
set_option maxRecDepth 20000 in
theorem sX9_copy_27_17 (d : Nat) (X : abX)  (h : abJ) (z : abJ) (hf : fX9_copy 27 17 h = some z) : ab_Ex X (d + 0) 117 0 [(0, .ref 27), (1, .ref 17)] [] ab_SH (ab_dD h) (fun r => r = (none, ab_SH, ab_dD z)) := by
  unfold fX9_copy at hf
  try simp only [Nat.reduceAdd] at hf
  refine ab_Ex.blk (k := 16) (pc' := 32) (lv' := [(0, .ref 27), (1, .ref 17)]) (st' := []) (sh' := ab_SH) (D' := ab_dD (ab_wI (ab_wI (ab_wI (ab_wI h 27 0 (h.1 17 0)) 27 1 (((ab_wI h 27 0 (h.1 17 0))).1 17 1)) 27 2 (((ab_wI (ab_wI h 27 0 (h.1 17 0)) 27 1 (((ab_wI h 27 0 (h.1 17 0))).1 17 1))).1 17 2)) 27 3 (((ab_wI (ab_wI (ab_wI h 27 0 (h.1 17 0)) 27 1 (((ab_wI h 27 0 (h.1 17 0))).1 17 1)) 27 2 (((ab_wI (ab_wI h 27 0 (h.1 17 0)) 27 1 (((ab_wI h 27 0 (h.1 17 0))).1 17 1))).1 17 2))).1 17 3))) (fun n => rfl) ?_
  obtain rfl := Option.some.inj hf
  exact ab_Ex.ret (fun n => rfl) rfl
set_option maxRecDepth 20000 in
theorem sX9_copy_28_17 (d : Nat) (X : abX)  (h : abJ) (z : abJ) (hf : fX9_copy 28 17 h = some z) : ab_Ex X (d + 0) 117 0 [(0, .ref 28), (1, .ref 17)] [] ab_SH (ab_dD h) (fun r => r = (none, ab_SH, ab_dD z)) := by
  unfold fX9_copy at hf
  try simp only [Nat.reduceAdd] at hf
  refine ab_Ex.blk (k := 16) (pc' := 32) (lv' := [(0, .ref 28), (1, .ref 17)]) (st' := []) (sh' := ab_SH) (D' := ab_dD (ab_wI (ab_wI (ab_wI (ab_wI h 28 0 (h.1 17 0)) 28 1 (((ab_wI h 28 0 (h.1 17 0))).1 17 1)) 28 2 (((ab_wI (ab_wI h 28 0 (h.1 17 0)) 28 1 (((ab_wI h 28 0 (h.1 17 0))).1 17 1))).1 17 2)) 28 3 (((ab_wI (ab_wI (ab_wI h 28 0 (h.1 17 0)) 28 1 (((ab_wI h 28 0 (h.1 17 0))).1 17 1)) 28 2 (((ab_wI (ab_wI h 28 0 (h.1 17 0)) 28 1 (((ab_wI h 28 0 (h.1 17 0))).1 17 1))).1 17 2))).1 17 3))) (fun n => rfl) ?_
  obtain rfl := Option.some.inj hf
  exact ab_Ex.ret (fun n => rfl) rfl
set_option maxRecDepth 20000 in
theorem sX9_copy_29_17 (d : Nat) (X : abX)  (h : abJ) (z : abJ) (hf : fX9_copy 29 17 h = some z) : ab_Ex X (d + 0) 117 0 [(0, .ref 29), (1, .ref 17)] [] ab_SH (ab_dD h) (fun r => r = (none, ab_SH, ab_dD z)) := by
  unfold fX9_copy at hf
  try simp only [Nat.reduceAdd] at hf
  refine ab_Ex.blk (k := 16) (pc' := 32) (lv' := [(0, .ref 29), (1, .ref 17)]) (st' := []) (sh' := ab_SH) (D' := ab_dD (ab_wI (ab_wI (ab_wI (ab_wI h 29 0 (h.1 17 0)) 29 1 (((ab_wI h 29 0 (h.1 17 0))).1 17 1)) 29 2 (((ab_wI (ab_wI h 29 0 (h.1 17 0)) 29 1 (((ab_wI h 29 0 (h.1 17 0))).1 17 1))).1 17 2)) 29 3 (((ab_wI (ab_wI (ab_wI h 29 0 (h.1 17 0)) 29 1 (((ab_wI h 29 0 (h.1 17 0))).1 17 1)) 29 2 (((ab_wI (ab_wI h 29 0 (h.1 17 0)) 29 1 (((ab_wI h 29 0 (h.1 17 0))).1 17 1))).1 17 2))).1 17 3))) (fun n => rfl) ?_
  obtain rfl := Option.some.inj hf
  exact ab_Ex.ret (fun n => rfl) rfl
set_option maxRecDepth 20000 in
theorem sX9_copy_20_21 (d : Nat) (X : abX)  (h : abJ) (z : abJ) (hf : fX9_copy 20 21 h = some z) : ab_Ex X (d + 0) 117 0 [(0, .ref 20), (1, .ref 21)] [] ab_SH (ab_dD h) (fun r => r = (none, ab_SH, ab_dD z)) := by
  unfold fX9_copy at hf
  try simp only [Nat.reduceAdd] at hf
  refine ab_Ex.blk (k := 16) (pc' := 32) (lv' := [(0, .ref 20), (1, .ref 21)]) (st' := []) (sh' := ab_SH) (D' := ab_dD (ab_wI (ab_wI (ab_wI (ab_wI h 20 0 (h.1 21 0)) 20 1 (((ab_wI h 20 0 (h.1 21 0))).1 21 1)) 20 2 (((ab_wI (ab_wI h 20 0 (h.1 21 0)) 20 1 (((ab_wI h 20 0 (h.1 21 0))).1 21 1))).1 21 2)) 20 3 (((ab_wI (ab_wI (ab_wI h 20 0 (h.1 21 0)) 20 1 (((ab_wI h 20 0 (h.1 21 0))).1 21 1)) 20 2 (((ab_wI (ab_wI h 20 0 (h.1 21 0)) 20 1 (((ab_wI h 20 0 (h.1 21 0))).1 21 1))).1 21 2))).1 21 3))) (fun n => rfl) ?_
  obtain rfl := Option.some.inj hf
  exact ab_Ex.ret (fun n => rfl) rfl
set_option maxRecDepth 20000 in
theorem sX9_copy_21_22 (d : Nat) (X : abX)  (h : abJ) (z : abJ) (hf : fX9_copy 21 22 h = some z) : ab_Ex X (d + 0) 117 0 [(0, .ref 21), (1, .ref 22)] [] ab_SH (ab_dD h) (fun r => r = (none, ab_SH, ab_dD z)) := by
  unfold fX9_copy at hf
  try simp only [Nat.reduceAdd] at hf
  refine ab_Ex.blk (k := 16) (pc' := 32) (lv' := [(0, .ref 21), (1, .ref 22)]) (st' := []) (sh' := ab_SH) (D' := ab_dD (ab_wI (ab_wI (ab_wI (ab_wI h 21 0 (h.1 22 0)) 21 1 (((ab_wI h 21 0 (h.1 22 0))).1 22 1)) 21 2 (((ab_wI (ab_wI h 21 0 (h.1 22 0)) 21 1 (((ab_wI h 21 0 (h.1 22 0))).1 22 1))).1 22 2)) 21 3 (((ab_wI (ab_wI (ab_wI h 21 0 (h.1 22 0)) 21 1 (((ab_wI h 21 0 (h.1 22 0))).1 22 1)) 21 2 (((ab_wI (ab_wI h 21 0 (h.1 22 0)) 21 1 (((ab_wI h 21 0 (h.1 22 0))).1 22 1))).1 22 2))).1 22 3))) (fun n => rfl) ?_
  obtain rfl := Option.some.inj hf
  exact ab_Ex.ret (fun n => rfl) rfl
set_option maxRecDepth 20000 in
theorem sX9_copy_22_23 (d : Nat) (X : abX)  (h : abJ) (z : abJ) (hf : fX9_copy 22 23 h = some z) : ab_Ex X (d + 0) 117 0 [(0, .ref 22), (1, .ref 23)] [] ab_SH (ab_dD h) (fun r => r = (none, ab_SH, ab_dD z)) := by
  unfold fX9_copy at hf
  try simp only [Nat.reduceAdd] at hf
  refine ab_Ex.blk (k := 16) (pc' := 32) (lv' := [(0, .ref 22), (1, .ref 23)]) (st' := []) (sh' := ab_SH) (D' := ab_dD (ab_wI (ab_wI (ab_wI (ab_wI h 22 0 (h.1 23 0)) 22 1 (((ab_wI h 22 0 (h.1 23 0))).1 23 1)) 22 2 (((ab_wI (ab_wI h 22 0 (h.1 23 0)) 22 1 (((ab_wI h 22 0 (h.1 23 0))).1 23 1))).1 23 2)) 22 3 (((ab_wI (ab_wI (ab_wI h 22 0 (h.1 23 0)) 22 1 (((ab_wI h 22 0 (h.1 23 0))).1 23 1)) 22 2 (((ab_wI (ab_wI h 22 0 (h.1 23 0)) 22 1 (((ab_wI h 22 0 (h.1 23 0))).1 23 1))).1 23 2))).1 23 3))) (fun n => rfl) ?_
  obtain rfl := Option.some.inj hf
  exact ab_Ex.ret (fun n => rfl) rfl
set_option maxRecDepth 20000 in
theorem sX9_copy_23_24 (d : Nat) (X : abX)  (h : abJ) (z : abJ) (hf : fX9_copy 23 24 h = some z) : ab_Ex X (d + 0) 117 0 [(0, .ref 23), (1, .ref 24)] [] ab_SH (ab_dD h) (fun r => r = (none, ab_SH, ab_dD z)) := by
  unfold fX9_copy at hf
  try simp only [Nat.reduceAdd] at hf
  refine ab_Ex.blk (k := 16) (pc' := 32) (lv' := [(0, .ref 23), (1, .ref 24)]) (st' := []) (sh' := ab_SH) (D' := ab_dD (ab_wI (ab_wI (ab_wI (ab_wI h 23 0 (h.1 24 0)) 23 1 (((ab_wI h 23 0 (h.1 24 0))).1 24 1)) 23 2 (((ab_wI (ab_wI h 23 0 (h.1 24 0)) 23 1 (((ab_wI h 23 0 (h.1 24 0))).1 24 1))).1 24 2)) 23 3 (((ab_wI (ab_wI (ab_wI h 23 0 (h.1 24 0)) 23 1 (((ab_wI h 23 0 (h.1 24 0))).1 24 1)) 23 2 (((ab_wI (ab_wI h 23 0 (h.1 24 0)) 23 1 (((ab_wI h 23 0 (h.1 24 0))).1 24 1))).1 24 2))).1 24 3))) (fun n => rfl) ?_
  obtain rfl := Option.some.inj hf
  exact ab_Ex.ret (fun n => rfl) rfl
set_option maxRecDepth 20000 in
theorem sX9_copy_24_25 (d : Nat) (X : abX)  (h : abJ) (z : abJ) (hf : fX9_copy 24 25 h = some z) : ab_Ex X (d + 0) 117 0 [(0, .ref 24), (1, .ref 25)] [] ab_SH (ab_dD h) (fun r => r = (none, ab_SH, ab_dD z)) := by
  unfold fX9_copy at hf
  try simp only [Nat.reduceAdd] at hf
  refine ab_Ex.blk (k := 16) (pc' := 32) (lv' := [(0, .ref 24), (1, .ref 25)]) (st' := []) (sh' := ab_SH) (D' := ab_dD (ab_wI (ab_wI (ab_wI (ab_wI h 24 0 (h.1 25 0)) 24 1 (((ab_wI h 24 0 (h.1 25 0))).1 25 1)) 24 2 (((ab_wI (ab_wI h 24 0 (h.1 25 0)) 24 1 (((ab_wI h 24 0 (h.1 25 0))).1 25 1))).1 25 2)) 24 3 (((ab_wI (ab_wI (ab_wI h 24 0 (h.1 25 0)) 24 1 (((ab_wI h 24 0 (h.1 25 0))).1 25 1)) 24 2 (((ab_wI (ab_wI h 24 0 (h.1 25 0)) 24 1 (((ab_wI h 24 0 (h.1 25 0))).1 25 1))).1 25 2))).1 25 3))) (fun n => rfl) ?_
  obtain rfl := Option.some.inj hf
  exact ab_Ex.ret (fun n => rfl) rfl
set_option maxRecDepth 20000 in
theorem sX9_copy_25_26 (d : Nat) (X : abX)  (h : abJ) (z : abJ) (hf : fX9_copy 25 26 h = some z) : ab_Ex X (d + 0) 117 0 [(0, .ref 25), (1, .ref 26)] [] ab_SH (ab_dD h) (fun r => r = (none, ab_SH, ab_dD z)) := by
  unfold fX9_copy at hf
  try simp only [Nat.reduceAdd] at hf
  refine ab_Ex.blk (k := 16) (pc' := 32) (lv' := [(0, .ref 25), (1, .ref 26)]) (st' := []) (sh' := ab_SH) (D' := ab_dD (ab_wI (ab_wI (ab_wI (ab_wI h 25 0 (h.1 26 0)) 25 1 (((ab_wI h 25 0 (h.1 26 0))).1 26 1)) 25 2 (((ab_wI (ab_wI h 25 0 (h.1 26 0)) 25 1 (((ab_wI h 25 0 (h.1 26 0))).1 26 1))).1 26 2)) 25 3 (((ab_wI (ab_wI (ab_wI h 25 0 (h.1 26 0)) 25 1 (((ab_wI h 25 0 (h.1 26 0))).1 26 1)) 25 2 (((ab_wI (ab_wI h 25 0 (h.1 26 0)) 25 1 (((ab_wI h 25 0 (h.1 26 0))).1 26 1))).1 26 2))).1 26 3))) (fun n => rfl) ?_
  obtain rfl := Option.some.inj hf
  exact ab_Ex.ret (fun n => rfl) rfl
set_option maxRecDepth 20000 in
theorem sX9_copy_26_27 (d : Nat) (X : abX)  (h : abJ) (z : abJ) (hf : fX9_copy 26 27 h = some z) : ab_Ex X (d + 0) 117 0 [(0, .ref 26), (1, .ref 27)] [] ab_SH (ab_dD h) (fun r => r = (none, ab_SH, ab_dD z)) := by
  unfold fX9_copy at hf
  try simp only [Nat.reduceAdd] at hf
  refine ab_Ex.blk (k := 16) (pc' := 32) (lv' := [(0, .ref 26), (1, .ref 27)]) (st' := []) (sh' := ab_SH) (D' := ab_dD (ab_wI (ab_wI (ab_wI (ab_wI h 26 0 (h.1 27 0)) 26 1 (((ab_wI h 26 0 (h.1 27 0))).1 27 1)) 26 2 (((ab_wI (ab_wI h 26 0 (h.1 27 0)) 26 1 (((ab_wI h 26 0 (h.1 27 0))).1 27 1))).1 27 2)) 26 3 (((ab_wI (ab_wI (ab_wI h 26 0 (h.1 27 0)) 26 1 (((ab_wI h 26 0 (h.1 27 0))).1 27 1)) 26 2 (((ab_wI (ab_wI h 26 0 (h.1 27 0)) 26 1 (((ab_wI h 26 0 (h.1 27 0))).1 27 1))).1 27 2))).1 27 3))) (fun n => rfl) ?_
  obtain rfl := Option.some.inj hf
  exact ab_Ex.ret (fun n => rfl) rfl
set_option maxRecDepth 20000 in
theorem sX9_copy_27_28 (d : Nat) (X : abX)  (h : abJ) (z : abJ) (hf : fX9_copy 27 28 h = some z) : ab_Ex X (d + 0) 117 0 [(0, .ref 27), (1, .ref 28)] [] ab_SH (ab_dD h) (fun r => r = (none, ab_SH, ab_dD z)) := by
  unfold fX9_copy at hf
  try simp only [Nat.reduceAdd] at hf
  refine ab_Ex.blk (k := 16) (pc' := 32) (lv' := [(0, .ref 27), (1, .ref 28)]) (st' := []) (sh' := ab_SH) (D' := ab_dD (ab_wI (ab_wI (ab_wI (ab_wI h 27 0 (h.1 28 0)) 27 1 (((ab_wI h 27 0 (h.1 28 0))).1 28 1)) 27 2 (((ab_wI (ab_wI h 27 0 (h.1 28 0)) 27 1 (((ab_wI h 27 0 (h.1 28 0))).1 28 1))).1 28 2)) 27 3 (((ab_wI (ab_wI (ab_wI h 27 0 (h.1 28 0)) 27 1 (((ab_wI h 27 0 (h.1 28 0))).1 28 1)) 27 2 (((ab_wI (ab_wI h 27 0 (h.1 28 0)) 27 1 (((ab_wI h 27 0 (h.1 28 0))).1 28 1))).1 28 2))).1 28 3))) (fun n => rfl) ?_
  obtain rfl := Option.some.inj hf
  exact ab_Ex.ret (fun n => rfl) rfl
set_option maxRecDepth 20000 in
theorem sX9_copy_28_29 (d : Nat) (X : abX)  (h : abJ) (z : abJ) (hf : fX9_copy 28 29 h = some z) : ab_Ex X (d + 0) 117 0 [(0, .ref 28), (1, .ref 29)] [] ab_SH (ab_dD h) (fun r => r = (none, ab_SH, ab_dD z)) := by
  unfold fX9_copy at hf
  try simp only [Nat.reduceAdd] at hf
  refine ab_Ex.blk (k := 16) (pc' := 32) (lv' := [(0, .ref 28), (1, .ref 29)]) (st' := []) (sh' := ab_SH) (D' := ab_dD (ab_wI (ab_wI (ab_wI (ab_wI h 28 0 (h.1 29 0)) 28 1 (((ab_wI h 28 0 (h.1 29 0))).1 29 1)) 28 2 (((ab_wI (ab_wI h 28 0 (h.1 29 0)) 28 1 (((ab_wI h 28 0 (h.1 29 0))).1 29 1))).1 29 2)) 28 3 (((ab_wI (ab_wI (ab_wI h 28 0 (h.1 29 0)) 28 1 (((ab_wI h 28 0 (h.1 29 0))).1 29 1)) 28 2 (((ab_wI (ab_wI h 28 0 (h.1 29 0)) 28 1 (((ab_wI h 28 0 (h.1 29 0))).1 29 1))).1 29 2))).1 29 3))) (fun n => rfl) ?_
  obtain rfl := Option.some.inj hf
  exact ab_Ex.ret (fun n => rfl) rfl
def fX0_begin  (h : abJ) : Option abJ := (fX9_copy 17 12 h).bind (fun r1 => some r1)
set_option maxRecDepth 20000 in
theorem sX0_begin (d : Nat) (X : abX)  (h : abJ) (z : abJ) (hf : fX0_begin  h = some z) : ab_Ex X (d + 1) 1 0 [(0, .ref 16)] [] ab_SH (ab_dD h) (fun r => r = (none, ab_SH, ab_dD z)) := by
  unfold fX0_begin at hf
  refine ab_Ex.blk (k := 4) (pc' := 8) (lv' := [(0, .ref 16)]) (st' := [.ref 12, .ref 17]) (sh' := ab_SH) (D' := ab_dD h) (fun n => rfl) ?_
  obtain ⟨r1, hr1, hf⟩ := ab_bind_s hf
  refine ab_Ex.call (d := d + 0) (M2 := 117) (as := [.ref 17, .ref 12]) (rest := []) (fun n => rfl) rfl (Nat.not_lt.mpr (Nat.le_of_ble_eq_true rfl)) (sX9_copy_17_12 (d) X  h _ hr1) (fun r hr => ?_)
  subst hr
  show ab_Ex X (d + 1) 1 11 [(0, .ref 16)] [] ab_SH (ab_dD r1) _
  obtain rfl := Option.some.inj hf
  exact ab_Ex.ret (fun n => rfl) rfl
def fX0_end_L16   : Nat → Int32 → abJ → Option abJ
  | 0, _, _ => none
  | n + 1, y2, h => if 10 ≤ y2 then ab_ask ((((ab_wI h 16 6 9)).1 16 6) < 0 ∨ 10 ≤ ((((ab_wI h 16 6 9)).1 16 6) : Int32).toNatClampNeg) ((fX9_copy (ab_pa (((ab_wI h 16 6 9)).1 16 6)) 17 (ab_wI h 16 6 9)).bind (fun r7 => some (ab_wI r7 16 6 (((r7).1 16 6) + 1)))) else ab_ask ((y2 - 1) < 0 ∨ 10 ≤ ((y2 - 1) : Int32).toNatClampNeg) (ab_ask (y2 < 0 ∨ 10 ≤ (y2 : Int32).toNatClampNeg) ((fX9_copy (ab_pa (y2 - 1)) (ab_pa y2) h).bind (fun r10 => fX0_end_L16 n ((y2 + 1)) r10)))
def fX0_end (x0 : Int32) (h : abJ) : Option abJ := if x0 = 0 then some h else if (h.1 16 6) < 10 then ab_ask ((h.1 16 6) < 0 ∨ 10 ≤ ((h.1 16 6) : Int32).toNatClampNeg) ((fX9_copy (ab_pa (h.1 16 6)) 17 h).bind (fun r4 => some (ab_wI r4 16 6 (((r4).1 16 6) + 1)))) else fX0_end_L16 ab_N 1 h
set_option maxRecDepth 20000 in
theorem sX0_end_L16 (d : Nat) (X : abX)   : ∀ (n : Nat), ∀ (y2 : Int32) (h : abJ) (z : abJ), fX0_end_L16 n y2 h = some z → ab_Ex X (d + 1) 2 16 [(0, .ref 16), (2, .int y2)] [] ab_SH (ab_dD h) (fun r => r = (none, ab_SH, ab_dD z)) := by
  intro n
  induction n with
  | zero => intro y2 h z hf; cases hf
  | succ n ih =>
    intro y2 h z hf
    rw [fX0_end_L16] at hf
    refine ab_Ex.blk (k := 2) (pc' := 19) (lv' := [(0, .ref 16), (2, .int y2)]) (st' := [.int 10, .int y2]) (sh' := ab_SH) (D' := ab_dD h) (fun n => rfl) ?_
    refine ab_Ex.ifc (c := 10 ≤ y2) (SA := (45, [(0, .ref 16), (2, .int y2)], [], ab_dD h)) (SB := (22, [(0, .ref 16), (2, .int y2)], [], ab_dD h)) (fun n => rfl) (fun c15 => ?_) (fun c15 => ?_)
    · replace hf := (if_pos c15).symm.trans hf
      refine ab_Ex.blk (k := 7) (pc' := 59) (lv' := [(0, .ref 16)]) (st' := [.int ((((ab_wI h 16 6 9)).1 16 6)), .ref 19]) (sh' := ab_SH) (D' := ab_dD (ab_wI h 16 6 9)) (fun n => rfl) ?_
      obtain ⟨c16, hf⟩ := ab_ask_s hf
      rcases ab_lt10 c16 with e17 | e17 | e17 | e17 | e17 | e17 | e17 | e17 | e17 | e17
      · have oe17 : ab_pa (((ab_wI h 16 6 9)).1 16 6) = 20 := by unfold ab_pa; rw [e17]
        try rw [oe17] at hf
        refine ab_Ex.aald (o := 19) (j := (((ab_wI h 16 6 9)).1 16 6)) (t := 103) (n := 10) (i := 0) (z := 20) (fun n => rfl) c16 (by decide) e17 rfl (by decide) ?_
        refine ab_Ex.blk (k := 2) (pc' := 64) (lv' := [(0, .ref 16)]) (st' := [.ref 17, .ref 20]) (sh' := ab_SH) (D' := ab_dD (ab_wI h 16 6 9)) (fun n => rfl) ?_
        obtain ⟨r18, hr18, hf⟩ := ab_bind_s hf
        refine ab_Ex.call (d := d + 0) (M2 := 117) (as := [.ref 20, .ref 17]) (rest := []) (fun n => rfl) rfl (Nat.not_lt.mpr (Nat.le_of_ble_eq_true rfl)) (sX9_copy_20_17 (d) X  (ab_wI h 16 6 9) _ hr18) (fun r hr => ?_)
        subst hr
        show ab_Ex X (d + 1) 2 67 [(0, .ref 16)] [] ab_SH (ab_dD r18) _
        refine ab_Ex.blk (k := 6) (pc' := 77) (lv' := [(0, .ref 16)]) (st' := []) (sh' := ab_SH) (D' := ab_dD (ab_wI r18 16 6 (((r18).1 16 6) + 1))) (fun n => rfl) ?_
        obtain rfl := Option.some.inj hf
        exact ab_Ex.ret (fun n => rfl) rfl
      · have oe17 : ab_pa (((ab_wI h 16 6 9)).1 16 6) = 21 := by unfold ab_pa; rw [e17]
        try rw [oe17] at hf
        refine ab_Ex.aald (o := 19) (j := (((ab_wI h 16 6 9)).1 16 6)) (t := 103) (n := 10) (i := 1) (z := 21) (fun n => rfl) c16 (by decide) e17 rfl (by decide) ?_
        refine ab_Ex.blk (k := 2) (pc' := 64) (lv' := [(0, .ref 16)]) (st' := [.ref 17, .ref 21]) (sh' := ab_SH) (D' := ab_dD (ab_wI h 16 6 9)) (fun n => rfl) ?_
        obtain ⟨r19, hr19, hf⟩ := ab_bind_s hf
        refine ab_Ex.call (d := d + 0) (M2 := 117) (as := [.ref 21, .ref 17]) (rest := []) (fun n => rfl) rfl (Nat.not_lt.mpr (Nat.le_of_ble_eq_true rfl)) (sX9_copy_21_17 (d) X  (ab_wI h 16 6 9) _ hr19) (fun r hr => ?_)
        subst hr
        show ab_Ex X (d + 1) 2 67 [(0, .ref 16)] [] ab_SH (ab_dD r19) _
        refine ab_Ex.blk (k := 6) (pc' := 77) (lv' := [(0, .ref 16)]) (st' := []) (sh' := ab_SH) (D' := ab_dD (ab_wI r19 16 6 (((r19).1 16 6) + 1))) (fun n => rfl) ?_
        obtain rfl := Option.some.inj hf
        exact ab_Ex.ret (fun n => rfl) rfl
      · have oe17 : ab_pa (((ab_wI h 16 6 9)).1 16 6) = 22 := by unfold ab_pa; rw [e17]
        try rw [oe17] at hf
        refine ab_Ex.aald (o := 19) (j := (((ab_wI h 16 6 9)).1 16 6)) (t := 103) (n := 10) (i := 2) (z := 22) (fun n => rfl) c16 (by decide) e17 rfl (by decide) ?_
        refine ab_Ex.blk (k := 2) (pc' := 64) (lv' := [(0, .ref 16)]) (st' := [.ref 17, .ref 22]) (sh' := ab_SH) (D' := ab_dD (ab_wI h 16 6 9)) (fun n => rfl) ?_
        obtain ⟨r20, hr20, hf⟩ := ab_bind_s hf
        refine ab_Ex.call (d := d + 0) (M2 := 117) (as := [.ref 22, .ref 17]) (rest := []) (fun n => rfl) rfl (Nat.not_lt.mpr (Nat.le_of_ble_eq_true rfl)) (sX9_copy_22_17 (d) X  (ab_wI h 16 6 9) _ hr20) (fun r hr => ?_)
        subst hr
        show ab_Ex X (d + 1) 2 67 [(0, .ref 16)] [] ab_SH (ab_dD r20) _
        refine ab_Ex.blk (k := 6) (pc' := 77) (lv' := [(0, .ref 16)]) (st' := []) (sh' := ab_SH) (D' := ab_dD (ab_wI r20 16 6 (((r20).1 16 6) + 1))) (fun n => rfl) ?_
        obtain rfl := Option.some.inj hf
        exact ab_Ex.ret (fun n => rfl) rfl
      · have oe17 : ab_pa (((ab_wI h 16 6 9)).1 16 6) = 23 := by unfold ab_pa; rw [e17]
        try rw [oe17] at hf
        refine ab_Ex.aald (o := 19) (j := (((ab_wI h 16 6 9)).1 16 6)) (t := 103) (n := 10) (i := 3) (z := 23) (fun n => rfl) c16 (by decide) e17 rfl (by decide) ?_
        refine ab_Ex.blk (k := 2) (pc' := 64) (lv' := [(0, .ref 16)]) (st' := [.ref 17, .ref 23]) (sh' := ab_SH) (D' := ab_dD (ab_wI h 16 6 9)) (fun n => rfl) ?_
        obtain ⟨r21, hr21, hf⟩ := ab_bind_s hf
        refine ab_Ex.call (d := d + 0) (M2 := 117) (as := [.ref 23, .ref 17]) (rest := []) (fun n => rfl) rfl (Nat.not_lt.mpr (Nat.le_of_ble_eq_true rfl)) (sX9_copy_23_17 (d) X  (ab_wI h 16 6 9) _ hr21) (fun r hr => ?_)
        subst hr
        show ab_Ex X (d + 1) 2 67 [(0, .ref 16)] [] ab_SH (ab_dD r21) _
        refine ab_Ex.blk (k := 6) (pc' := 77) (lv' := [(0, .ref 16)]) (st' := []) (sh' := ab_SH) (D' := ab_dD (ab_wI r21 16 6 (((r21).1 16 6) + 1))) (fun n => rfl) ?_
        obtain rfl := Option.some.inj hf
        exact ab_Ex.ret (fun n => rfl) rfl
      · have oe17 : ab_pa (((ab_wI h 16 6 9)).1 16 6) = 24 := by unfold ab_pa; rw [e17]
        try rw [oe17] at hf
        refine ab_Ex.aald (o := 19) (j := (((ab_wI h 16 6 9)).1 16 6)) (t := 103) (n := 10) (i := 4) (z := 24) (fun n => rfl) c16 (by decide) e17 rfl (by decide) ?_
        refine ab_Ex.blk (k := 2) (pc' := 64) (lv' := [(0, .ref 16)]) (st' := [.ref 17, .ref 24]) (sh' := ab_SH) (D' := ab_dD (ab_wI h 16 6 9)) (fun n => rfl) ?_
        obtain ⟨r22, hr22, hf⟩ := ab_bind_s hf
        refine ab_Ex.call (d := d + 0) (M2 := 117) (as := [.ref 24, .ref 17]) (rest := []) (fun n => rfl) rfl (Nat.not_lt.mpr (Nat.le_of_ble_eq_true rfl)) (sX9_copy_24_17 (d) X  (ab_wI h 16 6 9) _ hr22) (fun r hr => ?_)
        subst hr
        show ab_Ex X (d + 1) 2 67 [(0, .ref 16)] [] ab_SH (ab_dD r22) _
        refine ab_Ex.blk (k := 6) (pc' := 77) (lv' := [(0, .ref 16)]) (st' := []) (sh' := ab_SH) (D' := ab_dD (ab_wI r22 16 6 (((r22).1 16 6) + 1))) (fun n => rfl) ?_
        obtain rfl := Option.some.inj hf
        exact ab_Ex.ret (fun n => rfl) rfl
      · have oe17 : ab_pa (((ab_wI h 16 6 9)).1 16 6) = 25 := by unfold ab_pa; rw [e17]
        try rw [oe17] at hf
        refine ab_Ex.aald (o := 19) (j := (((ab_wI h 16 6 9)).1 16 6)) (t := 103) (n := 10) (i := 5) (z := 25) (fun n => rfl) c16 (by decide) e17 rfl (by decide) ?_
        refine ab_Ex.blk (k := 2) (pc' := 64) (lv' := [(0, .ref 16)]) (st' := [.ref 17, .ref 25]) (sh' := ab_SH) (D' := ab_dD (ab_wI h 16 6 9)) (fun n => rfl) ?_
        obtain ⟨r23, hr23, hf⟩ := ab_bind_s hf
        refine ab_Ex.call (d := d + 0) (M2 := 117) (as := [.ref 25, .ref 17]) (rest := []) (fun n => rfl) rfl (Nat.not_lt.mpr (Nat.le_of_ble_eq_true rfl)) (sX9_copy_25_17 (d) X  (ab_wI h 16 6 9) _ hr23) (fun r hr => ?_)
        subst hr
        show ab_Ex X (d + 1) 2 67 [(0, .ref 16)] [] ab_SH (ab_dD r23) _
        refine ab_Ex.blk (k := 6) (pc' := 77) (lv' := [(0, .ref 16)]) (st' := []) (sh' := ab_SH) (D' := ab_dD (ab_wI r23 16 6 (((r23).1 16 6) + 1))) (fun n => rfl) ?_
        obtain rfl := Option.some.inj hf
        exact ab_Ex.ret (fun n => rfl) rfl
      · have oe17 : ab_pa (((ab_wI h 16 6 9)).1 16 6) = 26 := by unfold ab_pa; rw [e17]
        try rw [oe17] at hf
        refine ab_Ex.aald (o := 19) (j := (((ab_wI h 16 6 9)).1 16 6)) (t := 103) (n := 10) (i := 6) (z := 26) (fun n => rfl) c16 (by decide) e17 rfl (by decide) ?_
        refine ab_Ex.blk (k := 2) (pc' := 64) (lv' := [(0, .ref 16)]) (st' := [.ref 17, .ref 26]) (sh' := ab_SH) (D' := ab_dD (ab_wI h 16 6 9)) (fun n => rfl) ?_
        obtain ⟨r24, hr24, hf⟩ := ab_bind_s hf
        refine ab_Ex.call (d := d + 0) (M2 := 117) (as := [.ref 26, .ref 17]) (rest := []) (fun n => rfl) rfl (Nat.not_lt.mpr (Nat.le_of_ble_eq_true rfl)) (sX9_copy_26_17 (d) X  (ab_wI h 16 6 9) _ hr24) (fun r hr => ?_)
        subst hr
        show ab_Ex X (d + 1) 2 67 [(0, .ref 16)] [] ab_SH (ab_dD r24) _
        refine ab_Ex.blk (k := 6) (pc' := 77) (lv' := [(0, .ref 16)]) (st' := []) (sh' := ab_SH) (D' := ab_dD (ab_wI r24 16 6 (((r24).1 16 6) + 1))) (fun n => rfl) ?_
        obtain rfl := Option.some.inj hf
        exact ab_Ex.ret (fun n => rfl) rfl
      · have oe17 : ab_pa (((ab_wI h 16 6 9)).1 16 6) = 27 := by unfold ab_pa; rw [e17]
        try rw [oe17] at hf
        refine ab_Ex.aald (o := 19) (j := (((ab_wI h 16 6 9)).1 16 6)) (t := 103) (n := 10) (i := 7) (z := 27) (fun n => rfl) c16 (by decide) e17 rfl (by decide) ?_
        refine ab_Ex.blk (k := 2) (pc' := 64) (lv' := [(0, .ref 16)]) (st' := [.ref 17, .ref 27]) (sh' := ab_SH) (D' := ab_dD (ab_wI h 16 6 9)) (fun n => rfl) ?_
        obtain ⟨r25, hr25, hf⟩ := ab_bind_s hf
        refine ab_Ex.call (d := d + 0) (M2 := 117) (as := [.ref 27, .ref 17]) (rest := []) (fun n => rfl) rfl (Nat.not_lt.mpr (Nat.le_of_ble_eq_true rfl)) (sX9_copy_27_17 (d) X  (ab_wI h 16 6 9) _ hr25) (fun r hr => ?_)
        subst hr
        show ab_Ex X (d + 1) 2 67 [(0, .ref 16)] [] ab_SH (ab_dD r25) _
        refine ab_Ex.blk (k := 6) (pc' := 77) (lv' := [(0, .ref 16)]) (st' := []) (sh' := ab_SH) (D' := ab_dD (ab_wI r25 16 6 (((r25).1 16 6) + 1))) (fun n => rfl) ?_
        obtain rfl := Option.some.inj hf
        exact ab_Ex.ret (fun n => rfl) rfl
      · have oe17 : ab_pa (((ab_wI h 16 6 9)).1 16 6) = 28 := by unfold ab_pa; rw [e17]
        try rw [oe17] at hf
        refine ab_Ex.aald (o := 19) (j := (((ab_wI h 16 6 9)).1 16 6)) (t := 103) (n := 10) (i := 8) (z := 28) (fun n => rfl) c16 (by decide) e17 rfl (by decide) ?_
        refine ab_Ex.blk (k := 2) (pc' := 64) (lv' := [(0, .ref 16)]) (st' := [.ref 17, .ref 28]) (sh' := ab_SH) (D' := ab_dD (ab_wI h 16 6 9)) (fun n => rfl) ?_
        obtain ⟨r26, hr26, hf⟩ := ab_bind_s hf
        refine ab_Ex.call (d := d + 0) (M2 := 117) (as := [.ref 28, .ref 17]) (rest := []) (fun n => rfl) rfl (Nat.not_lt.mpr (Nat.le_of_ble_eq_true rfl)) (sX9_copy_28_17 (d) X  (ab_wI h 16 6 9) _ hr26) (fun r hr => ?_)
        subst hr
        show ab_Ex X (d + 1) 2 67 [(0, .ref 16)] [] ab_SH (ab_dD r26) _
        refine ab_Ex.blk (k := 6) (pc' := 77) (lv' := [(0, .ref 16)]) (st' := []) (sh' := ab_SH) (D' := ab_dD (ab_wI r26 16 6 (((r26).1 16 6) + 1))) (fun n => rfl) ?_
        obtain rfl := Option.some.inj hf
        exact ab_Ex.ret (fun n => rfl) rfl
      · have oe17 : ab_pa (((ab_wI h 16 6 9)).1 16 6) = 29 := by unfold ab_pa; rw [e17]
        try rw [oe17] at hf
        refine ab_Ex.aald (o := 19) (j := (((ab_wI h 16 6 9)).1 16 6)) (t := 103) (n := 10) (i := 9) (z := 29) (fun n => rfl) c16 (by decide) e17 rfl (by decide) ?_
        refine ab_Ex.blk (k := 2) (pc' := 64) (lv' := [(0, .ref 16)]) (st' := [.ref 17, .ref 29]) (sh' := ab_SH) (D' := ab_dD (ab_wI h 16 6 9)) (fun n => rfl) ?_
        obtain ⟨r27, hr27, hf⟩ := ab_bind_s hf
        refine ab_Ex.call (d := d + 0) (M2 := 117) (as := [.ref 29, .ref 17]) (rest := []) (fun n => rfl) rfl (Nat.not_lt.mpr (Nat.le_of_ble_eq_true rfl)) (sX9_copy_29_17 (d) X  (ab_wI h 16 6 9) _ hr27) (fun r hr => ?_)
        subst hr
        show ab_Ex X (d + 1) 2 67 [(0, .ref 16)] [] ab_SH (ab_dD r27) _
        refine ab_Ex.blk (k := 6) (pc' := 77) (lv' := [(0, .ref 16)]) (st' := []) (sh' := ab_SH) (D' := ab_dD (ab_wI r27 16 6 (((r27).1 16 6) + 1))) (fun n => rfl) ?_
        obtain rfl := Option.some.inj hf
        exact ab_Ex.ret (fun n => rfl) rfl
    · replace hf := (if_neg c15).symm.trans hf
      refine ab_Ex.blk (k := 5) (pc' := 29) (lv' := [(0, .ref 16), (2, .int y2)]) (st' := [.int ((y2 - 1)), .ref 19]) (sh' := ab_SH) (D' := ab_dD h) (fun n => rfl) ?_
      obtain ⟨c28, hf⟩ := ab_ask_s hf
      rcases ab_lt10 c28 with e29 | e29 | e29 | e29 | e29 | e29 | e29 | e29 | e29 | e29
      · have oe29 : ab_pa (y2 - 1) = 20 := by unfold ab_pa; rw [e29]
        try rw [oe29] at hf
        refine ab_Ex.aald (o := 19) (j := (y2 - 1)) (t := 103) (n := 10) (i := 0) (z := 20) (fun n => rfl) c28 (by decide) e29 rfl (by decide) ?_
        refine ab_Ex.blk (k := 3) (pc' := 35) (lv' := [(0, .ref 16), (2, .int y2)]) (st' := [.int y2, .ref 19, .ref 20]) (sh' := ab_SH) (D' := ab_dD h) (fun n => rfl) ?_
        obtain ⟨c30, hf⟩ := ab_ask_s hf
        have e31 := ab_pred c28 e29
        have oe32 : ab_pa y2 = 21 := by unfold ab_pa; rw [e31]
        try rw [oe32] at hf
        refine ab_Ex.aald (o := 19) (j := y2) (t := 103) (n := 10) (i := 1) (z := 21) (fun n => rfl) c30 (by decide) e31 rfl (by decide) ?_
        obtain ⟨r33, hr33, hf⟩ := ab_bind_s hf
        refine ab_Ex.call (d := d + 0) (M2 := 117) (as := [.ref 20, .ref 21]) (rest := []) (fun n => rfl) rfl (Nat.not_lt.mpr (Nat.le_of_ble_eq_true rfl)) (sX9_copy_20_21 (d) X  h _ hr33) (fun r hr => ?_)
        subst hr
        show ab_Ex X (d + 1) 2 39 [(0, .ref 16), (2, .int y2)] [] ab_SH (ab_dD r33) _
        refine ab_Ex.blk (k := 2) (pc' := 16) (lv' := [(0, .ref 16), (2, .int ((y2 + 1)))]) (st' := []) (sh' := ab_SH) (D' := ab_dD r33) (fun n => rfl) ?_
        exact ih ((y2 + 1)) r33 _ hf
      · have oe29 : ab_pa (y2 - 1) = 21 := by unfold ab_pa; rw [e29]
        try rw [oe29] at hf
        refine ab_Ex.aald (o := 19) (j := (y2 - 1)) (t := 103) (n := 10) (i := 1) (z := 21) (fun n => rfl) c28 (by decide) e29 rfl (by decide) ?_
        refine ab_Ex.blk (k := 3) (pc' := 35) (lv' := [(0, .ref 16), (2, .int y2)]) (st' := [.int y2, .ref 19, .ref 21]) (sh' := ab_SH) (D' := ab_dD h) (fun n => rfl) ?_
        obtain ⟨c34, hf⟩ := ab_ask_s hf
        have e35 := ab_pred c28 e29
        have oe36 : ab_pa y2 = 22 := by unfold ab_pa; rw [e35]
        try rw [oe36] at hf
        refine ab_Ex.aald (o := 19) (j := y2) (t := 103) (n := 10) (i := 2) (z := 22) (fun n => rfl) c34 (by decide) e35 rfl (by decide) ?_
        obtain ⟨r37, hr37, hf⟩ := ab_bind_s hf
        refine ab_Ex.call (d := d + 0) (M2 := 117) (as := [.ref 21, .ref 22]) (rest := []) (fun n => rfl) rfl (Nat.not_lt.mpr (Nat.le_of_ble_eq_true rfl)) (sX9_copy_21_22 (d) X  h _ hr37) (fun r hr => ?_)
        subst hr
        show ab_Ex X (d + 1) 2 39 [(0, .ref 16), (2, .int y2)] [] ab_SH (ab_dD r37) _
        refine ab_Ex.blk (k := 2) (pc' := 16) (lv' := [(0, .ref 16), (2, .int ((y2 + 1)))]) (st' := []) (sh' := ab_SH) (D' := ab_dD r37) (fun n => rfl) ?_
        exact ih ((y2 + 1)) r37 _ hf
      · have oe29 : ab_pa (y2 - 1) = 22 := by unfold ab_pa; rw [e29]
        try rw [oe29] at hf
        refine ab_Ex.aald (o := 19) (j := (y2 - 1)) (t := 103) (n := 10) (i := 2) (z := 22) (fun n => rfl) c28 (by decide) e29 rfl (by decide) ?_
        refine ab_Ex.blk (k := 3) (pc' := 35) (lv' := [(0, .ref 16), (2, .int y2)]) (st' := [.int y2, .ref 19, .ref 22]) (sh' := ab_SH) (D' := ab_dD h) (fun n => rfl) ?_
        obtain ⟨c38, hf⟩ := ab_ask_s hf
        have e39 := ab_pred c28 e29
        have oe40 : ab_pa y2 = 23 := by unfold ab_pa; rw [e39]
        try rw [oe40] at hf
        refine ab_Ex.aald (o := 19) (j := y2) (t := 103) (n := 10) (i := 3) (z := 23) (fun n => rfl) c38 (by decide) e39 rfl (by decide) ?_
        obtain ⟨r41, hr41, hf⟩ := ab_bind_s hf
        refine ab_Ex.call (d := d + 0) (M2 := 117) (as := [.ref 22, .ref 23]) (rest := []) (fun n => rfl) rfl (Nat.not_lt.mpr (Nat.le_of_ble_eq_true rfl)) (sX9_copy_22_23 (d) X  h _ hr41) (fun r hr => ?_)
        subst hr
        show ab_Ex X (d + 1) 2 39 [(0, .ref 16), (2, .int y2)] [] ab_SH (ab_dD r41) _
        refine ab_Ex.blk (k := 2) (pc' := 16) (lv' := [(0, .ref 16), (2, .int ((y2 + 1)))]) (st' := []) (sh' := ab_SH) (D' := ab_dD r41) (fun n => rfl) ?_
        exact ih ((y2 + 1)) r41 _ hf
      · have oe29 : ab_pa (y2 - 1) = 23 := by unfold ab_pa; rw [e29]
        try rw [oe29] at hf
        refine ab_Ex.aald (o := 19) (j := (y2 - 1)) (t := 103) (n := 10) (i := 3) (z := 23) (fun n => rfl) c28 (by decide) e29 rfl (by decide) ?_
        refine ab_Ex.blk (k := 3) (pc' := 35) (lv' := [(0, .ref 16), (2, .int y2)]) (st' := [.int y2, .ref 19, .ref 23]) (sh' := ab_SH) (D' := ab_dD h) (fun n => rfl) ?_
        obtain ⟨c42, hf⟩ := ab_ask_s hf
        have e43 := ab_pred c28 e29
        have oe44 : ab_pa y2 = 24 := by unfold ab_pa; rw [e43]
        try rw [oe44] at hf
        refine ab_Ex.aald (o := 19) (j := y2) (t := 103) (n := 10) (i := 4) (z := 24) (fun n => rfl) c42 (by decide) e43 rfl (by decide) ?_
        obtain ⟨r45, hr45, hf⟩ := ab_bind_s hf
        refine ab_Ex.call (d := d + 0) (M2 := 117) (as := [.ref 23, .ref 24]) (rest := []) (fun n => rfl) rfl (Nat.not_lt.mpr (Nat.le_of_ble_eq_true rfl)) (sX9_copy_23_24 (d) X  h _ hr45) (fun r hr => ?_)
        subst hr
        show ab_Ex X (d + 1) 2 39 [(0, .ref 16), (2, .int y2)] [] ab_SH (ab_dD r45) _
        refine ab_Ex.blk (k := 2) (pc' := 16) (lv' := [(0, .ref 16), (2, .int ((y2 + 1)))]) (st' := []) (sh' := ab_SH) (D' := ab_dD r45) (fun n => rfl) ?_
        exact ih ((y2 + 1)) r45 _ hf
      · have oe29 : ab_pa (y2 - 1) = 24 := by unfold ab_pa; rw [e29]
        try rw [oe29] at hf
        refine ab_Ex.aald (o := 19) (j := (y2 - 1)) (t := 103) (n := 10) (i := 4) (z := 24) (fun n => rfl) c28 (by decide) e29 rfl (by decide) ?_
        refine ab_Ex.blk (k := 3) (pc' := 35) (lv' := [(0, .ref 16), (2, .int y2)]) (st' := [.int y2, .ref 19, .ref 24]) (sh' := ab_SH) (D' := ab_dD h) (fun n => rfl) ?_
        obtain ⟨c46, hf⟩ := ab_ask_s hf
        have e47 := ab_pred c28 e29
        have oe48 : ab_pa y2 = 25 := by unfold ab_pa; rw [e47]
        try rw [oe48] at hf
        refine ab_Ex.aald (o := 19) (j := y2) (t := 103) (n := 10) (i := 5) (z := 25) (fun n => rfl) c46 (by decide) e47 rfl (by decide) ?_
        obtain ⟨r49, hr49, hf⟩ := ab_bind_s hf
        refine ab_Ex.call (d := d + 0) (M2 := 117) (as := [.ref 24, .ref 25]) (rest := []) (fun n => rfl) rfl (Nat.not_lt.mpr (Nat.le_of_ble_eq_true rfl)) (sX9_copy_24_25 (d) X  h _ hr49) (fun r hr => ?_)
        subst hr
        show ab_Ex X (d + 1) 2 39 [(0, .ref 16), (2, .int y2)] [] ab_SH (ab_dD r49) _
        refine ab_Ex.blk (k := 2) (pc' := 16) (lv' := [(0, .ref 16), (2, .int ((y2 + 1)))]) (st' := []) (sh' := ab_SH) (D' := ab_dD r49) (fun n => rfl) ?_
        exact ih ((y2 + 1)) r49 _ hf
      · have oe29 : ab_pa (y2 - 1) = 25 := by unfold ab_pa; rw [e29]
        try rw [oe29] at hf
        refine ab_Ex.aald (o := 19) (j := (y2 - 1)) (t := 103) (n := 10) (i := 5) (z := 25) (fun n => rfl) c28 (by decide) e29 rfl (by decide) ?_
        refine ab_Ex.blk (k := 3) (pc' := 35) (lv' := [(0, .ref 16), (2, .int y2)]) (st' := [.int y2, .ref 19, .ref 25]) (sh' := ab_SH) (D' := ab_dD h) (fun n => rfl) ?_
        obtain ⟨c50, hf⟩ := ab_ask_s hf
        have e51 := ab_pred c28 e29
        have oe52 : ab_pa y2 = 26 := by unfold ab_pa; rw [e51]
        try rw [oe52] at hf
        refine ab_Ex.aald (o := 19) (j := y2) (t := 103) (n := 10) (i := 6) (z := 26) (fun n => rfl) c50 (by decide) e51 rfl (by decide) ?_
        obtain ⟨r53, hr53, hf⟩ := ab_bind_s hf
        refine ab_Ex.call (d := d + 0) (M2 := 117) (as := [.ref 25, .ref 26]) (rest := []) (fun n => rfl) rfl (Nat.not_lt.mpr (Nat.le_of_ble_eq_true rfl)) (sX9_copy_25_26 (d) X  h _ hr53) (fun r hr => ?_)
        subst hr
        show ab_Ex X (d + 1) 2 39 [(0, .ref 16), (2, .int y2)] [] ab_SH (ab_dD r53) _
        refine ab_Ex.blk (k := 2) (pc' := 16) (lv' := [(0, .ref 16), (2, .int ((y2 + 1)))]) (st' := []) (sh' := ab_SH) (D' := ab_dD r53) (fun n => rfl) ?_
        exact ih ((y2 + 1)) r53 _ hf
      · have oe29 : ab_pa (y2 - 1) = 26 := by unfold ab_pa; rw [e29]
        try rw [oe29] at hf
        refine ab_Ex.aald (o := 19) (j := (y2 - 1)) (t := 103) (n := 10) (i := 6) (z := 26) (fun n => rfl) c28 (by decide) e29 rfl (by decide) ?_
        refine ab_Ex.blk (k := 3) (pc' := 35) (lv' := [(0, .ref 16), (2, .int y2)]) (st' := [.int y2, .ref 19, .ref 26]) (sh' := ab_SH) (D' := ab_dD h) (fun n => rfl) ?_
        obtain ⟨c54, hf⟩ := ab_ask_s hf
        have e55 := ab_pred c28 e29
        have oe56 : ab_pa y2 = 27 := by unfold ab_pa; rw [e55]
        try rw [oe56] at hf
        refine ab_Ex.aald (o := 19) (j := y2) (t := 103) (n := 10) (i := 7) (z := 27) (fun n => rfl) c54 (by decide) e55 rfl (by decide) ?_
        obtain ⟨r57, hr57, hf⟩ := ab_bind_s hf
        refine ab_Ex.call (d := d + 0) (M2 := 117) (as := [.ref 26, .ref 27]) (rest := []) (fun n => rfl) rfl (Nat.not_lt.mpr (Nat.le_of_ble_eq_true rfl)) (sX9_copy_26_27 (d) X  h _ hr57) (fun r hr => ?_)
        subst hr
        show ab_Ex X (d + 1) 2 39 [(0, .ref 16), (2, .int y2)] [] ab_SH (ab_dD r57) _
        refine ab_Ex.blk (k := 2) (pc' := 16) (lv' := [(0, .ref 16), (2, .int ((y2 + 1)))]) (st' := []) (sh' := ab_SH) (D' := ab_dD r57) (fun n => rfl) ?_
        exact ih ((y2 + 1)) r57 _ hf
      · have oe29 : ab_pa (y2 - 1) = 27 := by unfold ab_pa; rw [e29]
        try rw [oe29] at hf
        refine ab_Ex.aald (o := 19) (j := (y2 - 1)) (t := 103) (n := 10) (i := 7) (z := 27) (fun n => rfl) c28 (by decide) e29 rfl (by decide) ?_
        refine ab_Ex.blk (k := 3) (pc' := 35) (lv' := [(0, .ref 16), (2, .int y2)]) (st' := [.int y2, .ref 19, .ref 27]) (sh' := ab_SH) (D' := ab_dD h) (fun n => rfl) ?_
        obtain ⟨c58, hf⟩ := ab_ask_s hf
        have e59 := ab_pred c28 e29
        have oe60 : ab_pa y2 = 28 := by unfold ab_pa; rw [e59]
        try rw [oe60] at hf
        refine ab_Ex.aald (o := 19) (j := y2) (t := 103) (n := 10) (i := 8) (z := 28) (fun n => rfl) c58 (by decide) e59 rfl (by decide) ?_
        obtain ⟨r61, hr61, hf⟩ := ab_bind_s hf
        refine ab_Ex.call (d := d + 0) (M2 := 117) (as := [.ref 27, .ref 28]) (rest := []) (fun n => rfl) rfl (Nat.not_lt.mpr (Nat.le_of_ble_eq_true rfl)) (sX9_copy_27_28 (d) X  h _ hr61) (fun r hr => ?_)
        subst hr
        show ab_Ex X (d + 1) 2 39 [(0, .ref 16), (2, .int y2)] [] ab_SH (ab_dD r61) _
        refine ab_Ex.blk (k := 2) (pc' := 16) (lv' := [(0, .ref 16), (2, .int ((y2 + 1)))]) (st' := []) (sh' := ab_SH) (D' := ab_dD r61) (fun n => rfl) ?_
        exact ih ((y2 + 1)) r61 _ hf
      · have oe29 : ab_pa (y2 - 1) = 28 := by unfold ab_pa; rw [e29]
        try rw [oe29] at hf
        refine ab_Ex.aald (o := 19) (j := (y2 - 1)) (t := 103) (n := 10) (i := 8) (z := 28) (fun n => rfl) c28 (by decide) e29 rfl (by decide) ?_
        refine ab_Ex.blk (k := 3) (pc' := 35) (lv' := [(0, .ref 16), (2, .int y2)]) (st' := [.int y2, .ref 19, .ref 28]) (sh' := ab_SH) (D' := ab_dD h) (fun n => rfl) ?_
        obtain ⟨c62, hf⟩ := ab_ask_s hf
        have e63 := ab_pred c28 e29
        have oe64 : ab_pa y2 = 29 := by unfold ab_pa; rw [e63]
        try rw [oe64] at hf
        refine ab_Ex.aald (o := 19) (j := y2) (t := 103) (n := 10) (i := 9) (z := 29) (fun n => rfl) c62 (by decide) e63 rfl (by decide) ?_
        obtain ⟨r65, hr65, hf⟩ := ab_bind_s hf
        refine ab_Ex.call (d := d + 0) (M2 := 117) (as := [.ref 28, .ref 29]) (rest := []) (fun n => rfl) rfl (Nat.not_lt.mpr (Nat.le_of_ble_eq_true rfl)) (sX9_copy_28_29 (d) X  h _ hr65) (fun r hr => ?_)
        subst hr
        show ab_Ex X (d + 1) 2 39 [(0, .ref 16), (2, .int y2)] [] ab_SH (ab_dD r65) _
        refine ab_Ex.blk (k := 2) (pc' := 16) (lv' := [(0, .ref 16), (2, .int ((y2 + 1)))]) (st' := []) (sh' := ab_SH) (D' := ab_dD r65) (fun n => rfl) ?_
        exact ih ((y2 + 1)) r65 _ hf
      · have oe29 : ab_pa (y2 - 1) = 29 := by unfold ab_pa; rw [e29]
        try rw [oe29] at hf
        refine ab_Ex.aald (o := 19) (j := (y2 - 1)) (t := 103) (n := 10) (i := 9) (z := 29) (fun n => rfl) c28 (by decide) e29 rfl (by decide) ?_
        refine ab_Ex.blk (k := 3) (pc' := 35) (lv' := [(0, .ref 16), (2, .int y2)]) (st' := [.int y2, .ref 19, .ref 29]) (sh' := ab_SH) (D' := ab_dD h) (fun n => rfl) ?_
        obtain ⟨c66, hf⟩ := ab_ask_s hf
        have e67 := ab_pred c28 e29
        exact absurd (Or.inr (by rw [e67]; decide)) c66
set_option maxRecDepth 20000 in
theorem sX0_end (d : Nat) (X : abX) (x0 : Int32) (h : abJ) (z : abJ) (hf : fX0_end x0 h = some z) : ab_Ex X (d + 1) 2 0 [(0, .ref 16), (1, .int x0)] [] ab_SH (ab_dD h) (fun r => r = (none, ab_SH, ab_dD z)) := by
  unfold fX0_end at hf
  refine ab_Ex.blk (k := 1) (pc' := 1) (lv' := [(0, .ref 16), (1, .int x0)]) (st' := [.int x0]) (sh' := ab_SH) (D' := ab_dD h) (fun n => rfl) ?_
  refine ab_Ex.ifc (c := x0 = 0) (SA := (4, [(0, .ref 16), (1, .int x0)], [], ab_dD h)) (SB := (5, [(0, .ref 16), (1, .int x0)], [], ab_dD h)) (fun n => rfl) (fun c1 => ?_) (fun c1 => ?_)
  · replace hf := (if_pos c1).symm.trans hf
    obtain rfl := Option.some.inj hf
    exact ab_Ex.ret (fun n => rfl) rfl
  · replace hf := (if_neg c1).symm.trans hf
    refine ab_Ex.blk (k := 3) (pc' := 11) (lv' := [(0, .ref 16), (1, .int x0)]) (st' := [.int 10, .int ((h.1 16 6))]) (sh' := ab_SH) (D' := ab_dD h) (fun n => rfl) ?_
    refine ab_Ex.ifc (c := (h.1 16 6) < 10) (SA := (51, [(0, .ref 16), (1, .int x0)], [], ab_dD h)) (SB := (14, [(0, .ref 16), (1, .int x0)], [], ab_dD h)) (fun n => rfl) (fun c2 => ?_) (fun c2 => ?_)
    · replace hf := (if_pos c2).symm.trans hf
      refine ab_Ex.blk (k := 4) (pc' := 59) (lv' := [(0, .ref 16)]) (st' := [.int ((h.1 16 6)), .ref 19]) (sh' := ab_SH) (D' := ab_dD h) (fun n => rfl) ?_
      obtain ⟨c3, hf⟩ := ab_ask_s hf
      rcases ab_lt10 c3 with e4 | e4 | e4 | e4 | e4 | e4 | e4 | e4 | e4 | e4
      · have oe4 : ab_pa (h.1 16 6) = 20 := by unfold ab_pa; rw [e4]
        try rw [oe4] at hf
        refine ab_Ex.aald (o := 19) (j := (h.1 16 6)) (t := 103) (n := 10) (i := 0) (z := 20) (fun n => rfl) c3 (by decide) e4 rfl (by decide) ?_
        refine ab_Ex.blk (k := 2) (pc' := 64) (lv' := [(0, .ref 16)]) (st' := [.ref 17, .ref 20]) (sh' := ab_SH) (D' := ab_dD h) (fun n => rfl) ?_
        obtain ⟨r5, hr5, hf⟩ := ab_bind_s hf
        refine ab_Ex.call (d := d + 0) (M2 := 117) (as := [.ref 20, .ref 17]) (rest := []) (fun n => rfl) rfl (Nat.not_lt.mpr (Nat.le_of_ble_eq_true rfl)) (sX9_copy_20_17 (d) X  h _ hr5) (fun r hr => ?_)
        subst hr
        show ab_Ex X (d + 1) 2 67 [(0, .ref 16)] [] ab_SH (ab_dD r5) _
        refine ab_Ex.blk (k := 6) (pc' := 77) (lv' := [(0, .ref 16)]) (st' := []) (sh' := ab_SH) (D' := ab_dD (ab_wI r5 16 6 (((r5).1 16 6) + 1))) (fun n => rfl) ?_
        obtain rfl := Option.some.inj hf
        exact ab_Ex.ret (fun n => rfl) rfl
      · have oe4 : ab_pa (h.1 16 6) = 21 := by unfold ab_pa; rw [e4]
        try rw [oe4] at hf
        refine ab_Ex.aald (o := 19) (j := (h.1 16 6)) (t := 103) (n := 10) (i := 1) (z := 21) (fun n => rfl) c3 (by decide) e4 rfl (by decide) ?_
        refine ab_Ex.blk (k := 2) (pc' := 64) (lv' := [(0, .ref 16)]) (st' := [.ref 17, .ref 21]) (sh' := ab_SH) (D' := ab_dD h) (fun n => rfl) ?_
        obtain ⟨r6, hr6, hf⟩ := ab_bind_s hf
        refine ab_Ex.call (d := d + 0) (M2 := 117) (as := [.ref 21, .ref 17]) (rest := []) (fun n => rfl) rfl (Nat.not_lt.mpr (Nat.le_of_ble_eq_true rfl)) (sX9_copy_21_17 (d) X  h _ hr6) (fun r hr => ?_)
        subst hr
        show ab_Ex X (d + 1) 2 67 [(0, .ref 16)] [] ab_SH (ab_dD r6) _
        refine ab_Ex.blk (k := 6) (pc' := 77) (lv' := [(0, .ref 16)]) (st' := []) (sh' := ab_SH) (D' := ab_dD (ab_wI r6 16 6 (((r6).1 16 6) + 1))) (fun n => rfl) ?_
        obtain rfl := Option.some.inj hf
        exact ab_Ex.ret (fun n => rfl) rfl
      · have oe4 : ab_pa (h.1 16 6) = 22 := by unfold ab_pa; rw [e4]
        try rw [oe4] at hf
        refine ab_Ex.aald (o := 19) (j := (h.1 16 6)) (t := 103) (n := 10) (i := 2) (z := 22) (fun n => rfl) c3 (by decide) e4 rfl (by decide) ?_
        refine ab_Ex.blk (k := 2) (pc' := 64) (lv' := [(0, .ref 16)]) (st' := [.ref 17, .ref 22]) (sh' := ab_SH) (D' := ab_dD h) (fun n => rfl) ?_
        obtain ⟨r7, hr7, hf⟩ := ab_bind_s hf
        refine ab_Ex.call (d := d + 0) (M2 := 117) (as := [.ref 22, .ref 17]) (rest := []) (fun n => rfl) rfl (Nat.not_lt.mpr (Nat.le_of_ble_eq_true rfl)) (sX9_copy_22_17 (d) X  h _ hr7) (fun r hr => ?_)
        subst hr
        show ab_Ex X (d + 1) 2 67 [(0, .ref 16)] [] ab_SH (ab_dD r7) _
        refine ab_Ex.blk (k := 6) (pc' := 77) (lv' := [(0, .ref 16)]) (st' := []) (sh' := ab_SH) (D' := ab_dD (ab_wI r7 16 6 (((r7).1 16 6) + 1))) (fun n => rfl) ?_
        obtain rfl := Option.some.inj hf
        exact ab_Ex.ret (fun n => rfl) rfl
      · have oe4 : ab_pa (h.1 16 6) = 23 := by unfold ab_pa; rw [e4]
        try rw [oe4] at hf
        refine ab_Ex.aald (o := 19) (j := (h.1 16 6)) (t := 103) (n := 10) (i := 3) (z := 23) (fun n => rfl) c3 (by decide) e4 rfl (by decide) ?_
        refine ab_Ex.blk (k := 2) (pc' := 64) (lv' := [(0, .ref 16)]) (st' := [.ref 17, .ref 23]) (sh' := ab_SH) (D' := ab_dD h) (fun n => rfl) ?_
        obtain ⟨r8, hr8, hf⟩ := ab_bind_s hf
        refine ab_Ex.call (d := d + 0) (M2 := 117) (as := [.ref 23, .ref 17]) (rest := []) (fun n => rfl) rfl (Nat.not_lt.mpr (Nat.le_of_ble_eq_true rfl)) (sX9_copy_23_17 (d) X  h _ hr8) (fun r hr => ?_)
        subst hr
        show ab_Ex X (d + 1) 2 67 [(0, .ref 16)] [] ab_SH (ab_dD r8) _
        refine ab_Ex.blk (k := 6) (pc' := 77) (lv' := [(0, .ref 16)]) (st' := []) (sh' := ab_SH) (D' := ab_dD (ab_wI r8 16 6 (((r8).1 16 6) + 1))) (fun n => rfl) ?_
        obtain rfl := Option.some.inj hf
        exact ab_Ex.ret (fun n => rfl) rfl
      · have oe4 : ab_pa (h.1 16 6) = 24 := by unfold ab_pa; rw [e4]
        try rw [oe4] at hf
        refine ab_Ex.aald (o := 19) (j := (h.1 16 6)) (t := 103) (n := 10) (i := 4) (z := 24) (fun n => rfl) c3 (by decide) e4 rfl (by decide) ?_
        refine ab_Ex.blk (k := 2) (pc' := 64) (lv' := [(0, .ref 16)]) (st' := [.ref 17, .ref 24]) (sh' := ab_SH) (D' := ab_dD h) (fun n => rfl) ?_
        obtain ⟨r9, hr9, hf⟩ := ab_bind_s hf
        refine ab_Ex.call (d := d + 0) (M2 := 117) (as := [.ref 24, .ref 17]) (rest := []) (fun n => rfl) rfl (Nat.not_lt.mpr (Nat.le_of_ble_eq_true rfl)) (sX9_copy_24_17 (d) X  h _ hr9) (fun r hr => ?_)
        subst hr
        show ab_Ex X (d + 1) 2 67 [(0, .ref 16)] [] ab_SH (ab_dD r9) _
        refine ab_Ex.blk (k := 6) (pc' := 77) (lv' := [(0, .ref 16)]) (st' := []) (sh' := ab_SH) (D' := ab_dD (ab_wI r9 16 6 (((r9).1 16 6) + 1))) (fun n => rfl) ?_
        obtain rfl := Option.some.inj hf
        exact ab_Ex.ret (fun n => rfl) rfl
      · have oe4 : ab_pa (h.1 16 6) = 25 := by unfold ab_pa; rw [e4]
        try rw [oe4] at hf
        refine ab_Ex.aald (o := 19) (j := (h.1 16 6)) (t := 103) (n := 10) (i := 5) (z := 25) (fun n => rfl) c3 (by decide) e4 rfl (by decide) ?_
        refine ab_Ex.blk (k := 2) (pc' := 64) (lv' := [(0, .ref 16)]) (st' := [.ref 17, .ref 25]) (sh' := ab_SH) (D' := ab_dD h) (fun n => rfl) ?_
        obtain ⟨r10, hr10, hf⟩ := ab_bind_s hf
        refine ab_Ex.call (d := d + 0) (M2 := 117) (as := [.ref 25, .ref 17]) (rest := []) (fun n => rfl) rfl (Nat.not_lt.mpr (Nat.le_of_ble_eq_true rfl)) (sX9_copy_25_17 (d) X  h _ hr10) (fun r hr => ?_)
        subst hr
        show ab_Ex X (d + 1) 2 67 [(0, .ref 16)] [] ab_SH (ab_dD r10) _
        refine ab_Ex.blk (k := 6) (pc' := 77) (lv' := [(0, .ref 16)]) (st' := []) (sh' := ab_SH) (D' := ab_dD (ab_wI r10 16 6 (((r10).1 16 6) + 1))) (fun n => rfl) ?_
        obtain rfl := Option.some.inj hf
        exact ab_Ex.ret (fun n => rfl) rfl
      · have oe4 : ab_pa (h.1 16 6) = 26 := by unfold ab_pa; rw [e4]
        try rw [oe4] at hf
        refine ab_Ex.aald (o := 19) (j := (h.1 16 6)) (t := 103) (n := 10) (i := 6) (z := 26) (fun n => rfl) c3 (by decide) e4 rfl (by decide) ?_
        refine ab_Ex.blk (k := 2) (pc' := 64) (lv' := [(0, .ref 16)]) (st' := [.ref 17, .ref 26]) (sh' := ab_SH) (D' := ab_dD h) (fun n => rfl) ?_
        obtain ⟨r11, hr11, hf⟩ := ab_bind_s hf
        refine ab_Ex.call (d := d + 0) (M2 := 117) (as := [.ref 26, .ref 17]) (rest := []) (fun n => rfl) rfl (Nat.not_lt.mpr (Nat.le_of_ble_eq_true rfl)) (sX9_copy_26_17 (d) X  h _ hr11) (fun r hr => ?_)
        subst hr
        show ab_Ex X (d + 1) 2 67 [(0, .ref 16)] [] ab_SH (ab_dD r11) _
        refine ab_Ex.blk (k := 6) (pc' := 77) (lv' := [(0, .ref 16)]) (st' := []) (sh' := ab_SH) (D' := ab_dD (ab_wI r11 16 6 (((r11).1 16 6) + 1))) (fun n => rfl) ?_
        obtain rfl := Option.some.inj hf
        exact ab_Ex.ret (fun n => rfl) rfl
      · have oe4 : ab_pa (h.1 16 6) = 27 := by unfold ab_pa; rw [e4]
        try rw [oe4] at hf
        refine ab_Ex.aald (o := 19) (j := (h.1 16 6)) (t := 103) (n := 10) (i := 7) (z := 27) (fun n => rfl) c3 (by decide) e4 rfl (by decide) ?_
        refine ab_Ex.blk (k := 2) (pc' := 64) (lv' := [(0, .ref 16)]) (st' := [.ref 17, .ref 27]) (sh' := ab_SH) (D' := ab_dD h) (fun n => rfl) ?_
        obtain ⟨r12, hr12, hf⟩ := ab_bind_s hf
        refine ab_Ex.call (d := d + 0) (M2 := 117) (as := [.ref 27, .ref 17]) (rest := []) (fun n => rfl) rfl (Nat.not_lt.mpr (Nat.le_of_ble_eq_true rfl)) (sX9_copy_27_17 (d) X  h _ hr12) (fun r hr => ?_)
        subst hr
        show ab_Ex X (d + 1) 2 67 [(0, .ref 16)] [] ab_SH (ab_dD r12) _
        refine ab_Ex.blk (k := 6) (pc' := 77) (lv' := [(0, .ref 16)]) (st' := []) (sh' := ab_SH) (D' := ab_dD (ab_wI r12 16 6 (((r12).1 16 6) + 1))) (fun n => rfl) ?_
        obtain rfl := Option.some.inj hf
        exact ab_Ex.ret (fun n => rfl) rfl
      · have oe4 : ab_pa (h.1 16 6) = 28 := by unfold ab_pa; rw [e4]
        try rw [oe4] at hf
        refine ab_Ex.aald (o := 19) (j := (h.1 16 6)) (t := 103) (n := 10) (i := 8) (z := 28) (fun n => rfl) c3 (by decide) e4 rfl (by decide) ?_
        refine ab_Ex.blk (k := 2) (pc' := 64) (lv' := [(0, .ref 16)]) (st' := [.ref 17, .ref 28]) (sh' := ab_SH) (D' := ab_dD h) (fun n => rfl) ?_
        obtain ⟨r13, hr13, hf⟩ := ab_bind_s hf
        refine ab_Ex.call (d := d + 0) (M2 := 117) (as := [.ref 28, .ref 17]) (rest := []) (fun n => rfl) rfl (Nat.not_lt.mpr (Nat.le_of_ble_eq_true rfl)) (sX9_copy_28_17 (d) X  h _ hr13) (fun r hr => ?_)
        subst hr
        show ab_Ex X (d + 1) 2 67 [(0, .ref 16)] [] ab_SH (ab_dD r13) _
        refine ab_Ex.blk (k := 6) (pc' := 77) (lv' := [(0, .ref 16)]) (st' := []) (sh' := ab_SH) (D' := ab_dD (ab_wI r13 16 6 (((r13).1 16 6) + 1))) (fun n => rfl) ?_
        obtain rfl := Option.some.inj hf
        exact ab_Ex.ret (fun n => rfl) rfl
      · have oe4 : ab_pa (h.1 16 6) = 29 := by unfold ab_pa; rw [e4]
        try rw [oe4] at hf
        refine ab_Ex.aald (o := 19) (j := (h.1 16 6)) (t := 103) (n := 10) (i := 9) (z := 29) (fun n => rfl) c3 (by decide) e4 rfl (by decide) ?_
        refine ab_Ex.blk (k := 2) (pc' := 64) (lv' := [(0, .ref 16)]) (st' := [.ref 17, .ref 29]) (sh' := ab_SH) (D' := ab_dD h) (fun n => rfl) ?_
        obtain ⟨r14, hr14, hf⟩ := ab_bind_s hf
        refine ab_Ex.call (d := d + 0) (M2 := 117) (as := [.ref 29, .ref 17]) (rest := []) (fun n => rfl) rfl (Nat.not_lt.mpr (Nat.le_of_ble_eq_true rfl)) (sX9_copy_29_17 (d) X  h _ hr14) (fun r hr => ?_)
        subst hr
        show ab_Ex X (d + 1) 2 67 [(0, .ref 16)] [] ab_SH (ab_dD r14) _
        refine ab_Ex.blk (k := 6) (pc' := 77) (lv' := [(0, .ref 16)]) (st' := []) (sh' := ab_SH) (D' := ab_dD (ab_wI r14 16 6 (((r14).1 16 6) + 1))) (fun n => rfl) ?_
        obtain rfl := Option.some.inj hf
        exact ab_Ex.ret (fun n => rfl) rfl
    · replace hf := (if_neg c2).symm.trans hf
      refine ab_Ex.blk (k := 2) (pc' := 16) (lv' := [(0, .ref 16), (2, .int 1)]) (st' := []) (sh' := ab_SH) (D' := ab_dD h) (fun n => rfl) ?_
      exact sX0_end_L16 d X  ab_N 1 h _ hf
def fX0_takeBack (x0 : Int32) (h : abJ) : Option abJ := if x0 < 1 then some h else if (h.1 16 6) < x0 then some h else ab_ask ((((ab_wI h 16 6 ((h.1 16 6) - x0))).1 16 6) < 0 ∨ 10 ≤ ((((ab_wI h 16 6 ((h.1 16 6) - x0))).1 16 6) : Int32).toNatClampNeg) ((fX9_copy 12 (ab_pa (((ab_wI h 16 6 ((h.1 16 6) - x0))).1 16 6)) (ab_wI h 16 6 ((h.1 16 6) - x0))).bind (fun r4 => some r4))
set_option maxRecDepth 20000 in
theorem sX0_takeBack (d : Nat) (X : abX) (x0 : Int32) (h : abJ) (z : abJ) (hf : fX0_takeBack x0 h = some z) : ab_Ex X (d + 1) 3 0 [(0, .ref 16), (1, .int x0)] [] ab_SH (ab_dD h) (fun r => r = (none, ab_SH, ab_dD z)) := by
  unfold fX0_takeBack at hf
  refine ab_Ex.blk (k := 2) (pc' := 2) (lv' := [(0, .ref 16), (1, .int x0)]) (st' := [.int 1, .int x0]) (sh' := ab_SH) (D' := ab_dD h) (fun n => rfl) ?_
  refine ab_Ex.ifc (c := x0 < 1) (SA := (39, [(0, .ref 16), (1, .int x0)], [], ab_dD h)) (SB := (5, [(0, .ref 16), (1, .int x0)], [], ab_dD h)) (fun n => rfl) (fun c1 => ?_) (fun c1 => ?_)
  · replace hf := (if_pos c1).symm.trans hf
    obtain rfl := Option.some.inj hf
    exact ab_Ex.ret (fun n => rfl) rfl
  · replace hf := (if_neg c1).symm.trans hf
    refine ab_Ex.blk (k := 3) (pc' := 10) (lv' := [(0, .ref 16), (1, .int x0)]) (st' := [.int ((h.1 16 6)), .int x0]) (sh' := ab_SH) (D' := ab_dD h) (fun n => rfl) ?_
    refine ab_Ex.ifc (c := (h.1 16 6) < x0) (SA := (39, [(0, .ref 16), (1, .int x0)], [], ab_dD h)) (SB := (13, [(0, .ref 16), (1, .int x0)], [], ab_dD h)) (fun n => rfl) (fun c2 => ?_) (fun c2 => ?_)
    · replace hf := (if_pos c2).symm.trans hf
      obtain rfl := Option.some.inj hf
      exact ab_Ex.ret (fun n => rfl) rfl
    · replace hf := (if_neg c2).symm.trans hf
      refine ab_Ex.blk (k := 12) (pc' := 35) (lv' := [(0, .ref 16), (1, .int x0)]) (st' := [.int ((((ab_wI h 16 6 ((h.1 16 6) - x0))).1 16 6)), .ref 19, .ref 12]) (sh' := ab_SH) (D' := ab_dD (ab_wI h 16 6 ((h.1 16 6) - x0))) (fun n => rfl) ?_
      obtain ⟨c3, hf⟩ := ab_ask_s hf
      rcases ab_lt10 c3 with e4 | e4 | e4 | e4 | e4 | e4 | e4 | e4 | e4 | e4
      · have oe4 : ab_pa (((ab_wI h 16 6 ((h.1 16 6) - x0))).1 16 6) = 20 := by unfold ab_pa; rw [e4]
        try rw [oe4] at hf
        refine ab_Ex.aald (o := 19) (j := (((ab_wI h 16 6 ((h.1 16 6) - x0))).1 16 6)) (t := 103) (n := 10) (i := 0) (z := 20) (fun n => rfl) c3 (by decide) e4 rfl (by decide) ?_
        obtain ⟨r5, hr5, hf⟩ := ab_bind_s hf
        refine ab_Ex.call (d := d + 0) (M2 := 117) (as := [.ref 12, .ref 20]) (rest := []) (fun n => rfl) rfl (Nat.not_lt.mpr (Nat.le_of_ble_eq_true rfl)) (sX9_copy_12_20 (d) X  (ab_wI h 16 6 ((h.1 16 6) - x0)) _ hr5) (fun r hr => ?_)
        subst hr
        show ab_Ex X (d + 1) 3 39 [] [] ab_SH (ab_dD r5) _
        obtain rfl := Option.some.inj hf
        exact ab_Ex.ret (fun n => rfl) rfl
      · have oe4 : ab_pa (((ab_wI h 16 6 ((h.1 16 6) - x0))).1 16 6) = 21 := by unfold ab_pa; rw [e4]
        try rw [oe4] at hf
        refine ab_Ex.aald (o := 19) (j := (((ab_wI h 16 6 ((h.1 16 6) - x0))).1 16 6)) (t := 103) (n := 10) (i := 1) (z := 21) (fun n => rfl) c3 (by decide) e4 rfl (by decide) ?_
        obtain ⟨r6, hr6, hf⟩ := ab_bind_s hf
        refine ab_Ex.call (d := d + 0) (M2 := 117) (as := [.ref 12, .ref 21]) (rest := []) (fun n => rfl) rfl (Nat.not_lt.mpr (Nat.le_of_ble_eq_true rfl)) (sX9_copy_12_21 (d) X  (ab_wI h 16 6 ((h.1 16 6) - x0)) _ hr6) (fun r hr => ?_)
        subst hr
        show ab_Ex X (d + 1) 3 39 [] [] ab_SH (ab_dD r6) _
        obtain rfl := Option.some.inj hf
        exact ab_Ex.ret (fun n => rfl) rfl
      · have oe4 : ab_pa (((ab_wI h 16 6 ((h.1 16 6) - x0))).1 16 6) = 22 := by unfold ab_pa; rw [e4]
        try rw [oe4] at hf
        refine ab_Ex.aald (o := 19) (j := (((ab_wI h 16 6 ((h.1 16 6) - x0))).1 16 6)) (t := 103) (n := 10) (i := 2) (z := 22) (fun n => rfl) c3 (by decide) e4 rfl (by decide) ?_
        obtain ⟨r7, hr7, hf⟩ := ab_bind_s hf
        refine ab_Ex.call (d := d + 0) (M2 := 117) (as := [.ref 12, .ref 22]) (rest := []) (fun n => rfl) rfl (Nat.not_lt.mpr (Nat.le_of_ble_eq_true rfl)) (sX9_copy_12_22 (d) X  (ab_wI h 16 6 ((h.1 16 6) - x0)) _ hr7) (fun r hr => ?_)
        subst hr
        show ab_Ex X (d + 1) 3 39 [] [] ab_SH (ab_dD r7) _
        obtain rfl := Option.some.inj hf
        exact ab_Ex.ret (fun n => rfl) rfl
      · have oe4 : ab_pa (((ab_wI h 16 6 ((h.1 16 6) - x0))).1 16 6) = 23 := by unfold ab_pa; rw [e4]
        try rw [oe4] at hf
        refine ab_Ex.aald (o := 19) (j := (((ab_wI h 16 6 ((h.1 16 6) - x0))).1 16 6)) (t := 103) (n := 10) (i := 3) (z := 23) (fun n => rfl) c3 (by decide) e4 rfl (by decide) ?_
        obtain ⟨r8, hr8, hf⟩ := ab_bind_s hf
        refine ab_Ex.call (d := d + 0) (M2 := 117) (as := [.ref 12, .ref 23]) (rest := []) (fun n => rfl) rfl (Nat.not_lt.mpr (Nat.le_of_ble_eq_true rfl)) (sX9_copy_12_23 (d) X  (ab_wI h 16 6 ((h.1 16 6) - x0)) _ hr8) (fun r hr => ?_)
        subst hr
        show ab_Ex X (d + 1) 3 39 [] [] ab_SH (ab_dD r8) _
        obtain rfl := Option.some.inj hf
        exact ab_Ex.ret (fun n => rfl) rfl
      · have oe4 : ab_pa (((ab_wI h 16 6 ((h.1 16 6) - x0))).1 16 6) = 24 := by unfold ab_pa; rw [e4]
        try rw [oe4] at hf
        refine ab_Ex.aald (o := 19) (j := (((ab_wI h 16 6 ((h.1 16 6) - x0))).1 16 6)) (t := 103) (n := 10) (i := 4) (z := 24) (fun n => rfl) c3 (by decide) e4 rfl (by decide) ?_
        obtain ⟨r9, hr9, hf⟩ := ab_bind_s hf
        refine ab_Ex.call (d := d + 0) (M2 := 117) (as := [.ref 12, .ref 24]) (rest := []) (fun n => rfl) rfl (Nat.not_lt.mpr (Nat.le_of_ble_eq_true rfl)) (sX9_copy_12_24 (d) X  (ab_wI h 16 6 ((h.1 16 6) - x0)) _ hr9) (fun r hr => ?_)
        subst hr
        show ab_Ex X (d + 1) 3 39 [] [] ab_SH (ab_dD r9) _
        obtain rfl := Option.some.inj hf
        exact ab_Ex.ret (fun n => rfl) rfl
      · have oe4 : ab_pa (((ab_wI h 16 6 ((h.1 16 6) - x0))).1 16 6) = 25 := by unfold ab_pa; rw [e4]
        try rw [oe4] at hf
        refine ab_Ex.aald (o := 19) (j := (((ab_wI h 16 6 ((h.1 16 6) - x0))).1 16 6)) (t := 103) (n := 10) (i := 5) (z := 25) (fun n => rfl) c3 (by decide) e4 rfl (by decide) ?_
        obtain ⟨r10, hr10, hf⟩ := ab_bind_s hf
        refine ab_Ex.call (d := d + 0) (M2 := 117) (as := [.ref 12, .ref 25]) (rest := []) (fun n => rfl) rfl (Nat.not_lt.mpr (Nat.le_of_ble_eq_true rfl)) (sX9_copy_12_25 (d) X  (ab_wI h 16 6 ((h.1 16 6) - x0)) _ hr10) (fun r hr => ?_)
        subst hr
        show ab_Ex X (d + 1) 3 39 [] [] ab_SH (ab_dD r10) _
        obtain rfl := Option.some.inj hf
        exact ab_Ex.ret (fun n => rfl) rfl
      · have oe4 : ab_pa (((ab_wI h 16 6 ((h.1 16 6) - x0))).1 16 6) = 26 := by unfold ab_pa; rw [e4]
        try rw [oe4] at hf
        refine ab_Ex.aald (o := 19) (j := (((ab_wI h 16 6 ((h.1 16 6) - x0))).1 16 6)) (t := 103) (n := 10) (i := 6) (z := 26) (fun n => rfl) c3 (by decide) e4 rfl (by decide) ?_
        obtain ⟨r11, hr11, hf⟩ := ab_bind_s hf
        refine ab_Ex.call (d := d + 0) (M2 := 117) (as := [.ref 12, .ref 26]) (rest := []) (fun n => rfl) rfl (Nat.not_lt.mpr (Nat.le_of_ble_eq_true rfl)) (sX9_copy_12_26 (d) X  (ab_wI h 16 6 ((h.1 16 6) - x0)) _ hr11) (fun r hr => ?_)
        subst hr
        show ab_Ex X (d + 1) 3 39 [] [] ab_SH (ab_dD r11) _
        obtain rfl := Option.some.inj hf
        exact ab_Ex.ret (fun n => rfl) rfl
      · have oe4 : ab_pa (((ab_wI h 16 6 ((h.1 16 6) - x0))).1 16 6) = 27 := by unfold ab_pa; rw [e4]
        try rw [oe4] at hf
        refine ab_Ex.aald (o := 19) (j := (((ab_wI h 16 6 ((h.1 16 6) - x0))).1 16 6)) (t := 103) (n := 10) (i := 7) (z := 27) (fun n => rfl) c3 (by decide) e4 rfl (by decide) ?_
        obtain ⟨r12, hr12, hf⟩ := ab_bind_s hf
        refine ab_Ex.call (d := d + 0) (M2 := 117) (as := [.ref 12, .ref 27]) (rest := []) (fun n => rfl) rfl (Nat.not_lt.mpr (Nat.le_of_ble_eq_true rfl)) (sX9_copy_12_27 (d) X  (ab_wI h 16 6 ((h.1 16 6) - x0)) _ hr12) (fun r hr => ?_)
        subst hr
        show ab_Ex X (d + 1) 3 39 [] [] ab_SH (ab_dD r12) _
        obtain rfl := Option.some.inj hf
        exact ab_Ex.ret (fun n => rfl) rfl
      · have oe4 : ab_pa (((ab_wI h 16 6 ((h.1 16 6) - x0))).1 16 6) = 28 := by unfold ab_pa; rw [e4]
        try rw [oe4] at hf
        refine ab_Ex.aald (o := 19) (j := (((ab_wI h 16 6 ((h.1 16 6) - x0))).1 16 6)) (t := 103) (n := 10) (i := 8) (z := 28) (fun n => rfl) c3 (by decide) e4 rfl (by decide) ?_
        obtain ⟨r13, hr13, hf⟩ := ab_bind_s hf
        refine ab_Ex.call (d := d + 0) (M2 := 117) (as := [.ref 12, .ref 28]) (rest := []) (fun n => rfl) rfl (Nat.not_lt.mpr (Nat.le_of_ble_eq_true rfl)) (sX9_copy_12_28 (d) X  (ab_wI h 16 6 ((h.1 16 6) - x0)) _ hr13) (fun r hr => ?_)
        subst hr
        show ab_Ex X (d + 1) 3 39 [] [] ab_SH (ab_dD r13) _
        obtain rfl := Option.some.inj hf
        exact ab_Ex.ret (fun n => rfl) rfl
      · have oe4 : ab_pa (((ab_wI h 16 6 ((h.1 16 6) - x0))).1 16 6) = 29 := by unfold ab_pa; rw [e4]
        try rw [oe4] at hf
        refine ab_Ex.aald (o := 19) (j := (((ab_wI h 16 6 ((h.1 16 6) - x0))).1 16 6)) (t := 103) (n := 10) (i := 9) (z := 29) (fun n => rfl) c3 (by decide) e4 rfl (by decide) ?_
        obtain ⟨r14, hr14, hf⟩ := ab_bind_s hf
        refine ab_Ex.call (d := d + 0) (M2 := 117) (as := [.ref 12, .ref 29]) (rest := []) (fun n => rfl) rfl (Nat.not_lt.mpr (Nat.le_of_ble_eq_true rfl)) (sX9_copy_12_29 (d) X  (ab_wI h 16 6 ((h.1 16 6) - x0)) _ hr14) (fun r hr => ?_)
        subst hr
        show ab_Ex X (d + 1) 3 39 [] [] ab_SH (ab_dD r14) _
        obtain rfl := Option.some.inj hf
        exact ab_Ex.ret (fun n => rfl) rfl
def fX9_code (o : Nat) (h : abJ) : Option Int32 := some (((h.1 o 1) * 6) + (h.1 o 0))
set_option maxRecDepth 20000 in
theorem sX9_code_12 (d : Nat) (X : abX)  (h : abJ) (z : Int32) (hf : fX9_code 12 h = some z) : ab_Ex X (d + 0) 119 0 [(0, .ref 12)] [] ab_SH (ab_dD h) (fun r => r = (some (.int z), ab_SH, ab_dD h)) := by
  unfold fX9_code at hf
  try simp only [Nat.reduceAdd] at hf
  refine ab_Ex.blk (k := 7) (pc' := 12) (lv' := [(0, .ref 12)]) (st' := [.int ((((h.1 12 1) * 6) + (h.1 12 0)))]) (sh' := ab_SH) (D' := ab_dD h) (fun n => rfl) ?_
  obtain rfl := Option.some.inj hf
  exact ab_Ex.ret (fun n => rfl) rfl
set_option maxRecDepth 20000 in
theorem sX9_code_18 (d : Nat) (X : abX)  (h : abJ) (z : Int32) (hf : fX9_code 18 h = some z) : ab_Ex X (d + 0) 119 0 [(0, .ref 18)] [] ab_SH (ab_dD h) (fun r => r = (some (.int z), ab_SH, ab_dD h)) := by
  unfold fX9_code at hf
  try simp only [Nat.reduceAdd] at hf
  refine ab_Ex.blk (k := 7) (pc' := 12) (lv' := [(0, .ref 18)]) (st' := [.int ((((h.1 18 1) * 6) + (h.1 18 0)))]) (sh' := ab_SH) (D' := ab_dD h) (fun n => rfl) ?_
  obtain rfl := Option.some.inj hf
  exact ab_Ex.ret (fun n => rfl) rfl
def fX11_isIn (x0 : Int32) (x1 : Int32) (h : abJ) : Option Int32 := if x1 < 0 then some 0 else if 6 ≤ x1 then some 0 else if (((x0 : Int32) >>> (x1 &&& 31)) &&& 1) = 0 then some 0 else some 1
set_option maxRecDepth 20000 in
theorem sX11_isIn (d : Nat) (X : abX) (x0 : Int32) (x1 : Int32) (h : abJ) (z : Int32) (hf : fX11_isIn x0 x1 h = some z) : ab_Ex X (d + 0) 174 0 [(0, .int x0), (1, .int x1)] [] ab_SH (ab_dD h) (fun r => r = (some (.int z), ab_SH, ab_dD h)) := by
  unfold fX11_isIn at hf
  refine ab_Ex.blk (k := 1) (pc' := 1) (lv' := [(0, .int x0), (1, .int x1)]) (st' := [.int x1]) (sh' := ab_SH) (D' := ab_dD h) (fun n => rfl) ?_
  refine ab_Ex.ifc (c := x1 < 0) (SA := (22, [(0, .int x0), (1, .int x1)], [], ab_dD h)) (SB := (4, [(0, .int x0), (1, .int x1)], [], ab_dD h)) (fun n => rfl) (fun c1 => ?_) (fun c1 => ?_)
  · replace hf := (if_pos c1).symm.trans hf
    refine ab_Ex.blk (k := 1) (pc' := 23) (lv' := []) (st' := [.int 0]) (sh' := ab_SH) (D' := ab_dD h) (fun n => rfl) ?_
    obtain rfl := Option.some.inj hf
    exact ab_Ex.ret (fun n => rfl) rfl
  · replace hf := (if_neg c1).symm.trans hf
    refine ab_Ex.blk (k := 2) (pc' := 7) (lv' := [(0, .int x0), (1, .int x1)]) (st' := [.int 6, .int x1]) (sh' := ab_SH) (D' := ab_dD h) (fun n => rfl) ?_
    refine ab_Ex.ifc (c := 6 ≤ x1) (SA := (22, [(0, .int x0), (1, .int x1)], [], ab_dD h)) (SB := (10, [(0, .int x0), (1, .int x1)], [], ab_dD h)) (fun n => rfl) (fun c2 => ?_) (fun c2 => ?_)
    · replace hf := (if_pos c2).symm.trans hf
      refine ab_Ex.blk (k := 1) (pc' := 23) (lv' := []) (st' := [.int 0]) (sh' := ab_SH) (D' := ab_dD h) (fun n => rfl) ?_
      obtain rfl := Option.some.inj hf
      exact ab_Ex.ret (fun n => rfl) rfl
    · replace hf := (if_neg c2).symm.trans hf
      refine ab_Ex.blk (k := 5) (pc' := 15) (lv' := [(0, .int x0), (1, .int x1)]) (st' := [.int ((((x0 : Int32) >>> (x1 &&& 31)) &&& 1))]) (sh' := ab_SH) (D' := ab_dD h) (fun n => rfl) ?_
      refine ab_Ex.ifc (c := (((x0 : Int32) >>> (x1 &&& 31)) &&& 1) = 0) (SA := (22, [(0, .int x0), (1, .int x1)], [], ab_dD h)) (SB := (18, [(0, .int x0), (1, .int x1)], [], ab_dD h)) (fun n => rfl) (fun c3 => ?_) (fun c3 => ?_)
      · replace hf := (if_pos c3).symm.trans hf
        refine ab_Ex.blk (k := 1) (pc' := 23) (lv' := []) (st' := [.int 0]) (sh' := ab_SH) (D' := ab_dD h) (fun n => rfl) ?_
        obtain rfl := Option.some.inj hf
        exact ab_Ex.ret (fun n => rfl) rfl
      · replace hf := (if_neg c3).symm.trans hf
        refine ab_Ex.blk (k := 2) (pc' := 23) (lv' := []) (st' := [.int 1]) (sh' := ab_SH) (D' := ab_dD h) (fun n => rfl) ?_
        obtain rfl := Option.some.inj hf
        exact ab_Ex.ret (fun n => rfl) rfl
def fX3_isHome (x0 : Int32) (h : abJ) : Option Int32 := (fX11_isIn ((h.1 1 2)) x0 h).bind (fun r1 => ab_ask (¬ (r1 = 0 ∨ r1 = 1)) (some r1))
set_option maxRecDepth 20000 in
theorem sX3_isHome (d : Nat) (X : abX) (x0 : Int32) (h : abJ) (z : Int32) (hf : fX3_isHome x0 h = some z) : ab_Ex X (d + 1) 37 0 [(0, .ref 1), (1, .int x0)] [] ab_SH (ab_dD h) (fun r => r = (some (.int z), ab_SH, ab_dD h)) := by
  unfold fX3_isHome at hf
  refine ab_Ex.blk (k := 3) (pc' := 5) (lv' := [(0, .ref 1), (1, .int x0)]) (st' := [.int x0, .int ((h.1 1 2))]) (sh' := ab_SH) (D' := ab_dD h) (fun n => rfl) ?_
  obtain ⟨r1, hr1, hf⟩ := ab_bind_s hf
  refine ab_Ex.call (d := d + 0) (M2 := 174) (as := [.int ((h.1 1 2)), .int x0]) (rest := []) (fun n => rfl) rfl (Nat.not_lt.mpr (Nat.le_of_ble_eq_true rfl)) (sX11_isIn (d) X ((h.1 1 2)) x0 h _ hr1) (fun r hr => ?_)
  subst hr
  show ab_Ex X (d + 1) 37 8 [(0, .ref 1), (1, .int x0)] [.int r1] ab_SH (ab_dD h) _
  obtain ⟨c9, hf⟩ := ab_ask_s hf
  obtain rfl := Option.some.inj hf
  exact ab_Ex.retc (fun n => rfl) (Decidable.not_not.mp c9) rfl
def fX11_armOf (x0 : Int32) (x1 : Int32) (h : abJ) : Option Int32 := if x1 < 0 then some 0 else if x1 < 6 then ab_ask (x1 < 0 ∨ 7 ≤ (x1 : Int32).toNatClampNeg) (ab_ask ((ab_wt.getD (x1 : Int32).toNatClampNeg 0) = 0) (some ((x0 / (ab_wt.getD (x1 : Int32).toNatClampNeg 0)) - (x0 / (ab_wt.getD (x1 : Int32).toNatClampNeg 0)) / 3 * 3))) else some 0
set_option maxRecDepth 20000 in
theorem sX11_armOf (d : Nat) (X : abX) (x0 : Int32) (x1 : Int32) (h : abJ) (z : Int32) (hf : fX11_armOf x0 x1 h = some z) : ab_Ex X (d + 0) 172 0 [(0, .int x0), (1, .int x1)] [] ab_SH (ab_dD h) (fun r => r = (some (.int z), ab_SH, ab_dD h)) := by
  unfold fX11_armOf at hf
  refine ab_Ex.blk (k := 1) (pc' := 1) (lv' := [(0, .int x0), (1, .int x1)]) (st' := [.int x1]) (sh' := ab_SH) (D' := ab_dD h) (fun n => rfl) ?_
  refine ab_Ex.ifc (c := x1 < 0) (SA := (10, [(0, .int x0), (1, .int x1)], [], ab_dD h)) (SB := (4, [(0, .int x0), (1, .int x1)], [], ab_dD h)) (fun n => rfl) (fun c1 => ?_) (fun c1 => ?_)
  · replace hf := (if_pos c1).symm.trans hf
    refine ab_Ex.blk (k := 2) (pc' := 23) (lv' := []) (st' := [.int 0]) (sh' := ab_SH) (D' := ab_dD h) (fun n => rfl) ?_
    obtain rfl := Option.some.inj hf
    exact ab_Ex.ret (fun n => rfl) rfl
  · replace hf := (if_neg c1).symm.trans hf
    refine ab_Ex.blk (k := 2) (pc' := 7) (lv' := [(0, .int x0), (1, .int x1)]) (st' := [.int 6, .int x1]) (sh' := ab_SH) (D' := ab_dD h) (fun n => rfl) ?_
    refine ab_Ex.ifc (c := x1 < 6) (SA := (14, [(0, .int x0), (1, .int x1)], [], ab_dD h)) (SB := (10, [(0, .int x0), (1, .int x1)], [], ab_dD h)) (fun n => rfl) (fun c2 => ?_) (fun c2 => ?_)
    · replace hf := (if_pos c2).symm.trans hf
      refine ab_Ex.blk (k := 3) (pc' := 19) (lv' := [(0, .int x0), (1, .int x1)]) (st' := [.int x1, .ref 3000000, .int x0]) (sh' := ab_SH) (D' := ab_dD h) (fun n => rfl) ?_
      obtain ⟨c4, hf⟩ := ab_ask_s hf
      refine ab_Ex.grd (c := x1 < 0 ∨ 7 ≤ (x1 : Int32).toNatClampNeg) (S := (20, [(0, .int x0), (1, .int x1)], [.int ((ab_wt.getD (x1 : Int32).toNatClampNeg 0)), .int x0], ab_dD h)) (fun n => rfl) c4 ?_
      obtain ⟨c5, hf⟩ := ab_ask_s hf
      refine ab_Ex.grd (c := (ab_wt.getD (x1 : Int32).toNatClampNeg 0) = 0) (S := (21, [(0, .int x0), (1, .int x1)], [.int ((x0 / (ab_wt.getD (x1 : Int32).toNatClampNeg 0)))], ab_dD h)) (fun n => rfl) c5 ?_
      refine ab_Ex.blk (k := 1) (pc' := 22) (lv' := [(0, .int x0), (1, .int x1)]) (st' := [.int 3, .int ((x0 / (ab_wt.getD (x1 : Int32).toNatClampNeg 0)))]) (sh' := ab_SH) (D' := ab_dD h) (fun n => rfl) ?_
      refine ab_Ex.blk (k := 1) (pc' := 23) (lv' := []) (st' := [.int (((x0 / (ab_wt.getD (x1 : Int32).toNatClampNeg 0)) - (x0 / (ab_wt.getD (x1 : Int32).toNatClampNeg 0)) / 3 * 3))]) (sh' := ab_SH) (D' := ab_dD h) (fun n => rfl) ?_
      obtain rfl := Option.some.inj hf
      exact ab_Ex.ret (fun n => rfl) rfl
    · replace hf := (if_neg c2).symm.trans hf
      refine ab_Ex.blk (k := 2) (pc' := 23) (lv' := []) (st' := [.int 0]) (sh' := ab_SH) (D' := ab_dD h) (fun n => rfl) ?_
      obtain rfl := Option.some.inj hf
      exact ab_Ex.ret (fun n => rfl) rfl
def fX7_behind (x0 : Int32) (x1 : Int32) (x2 : Int32) (h : abJ) : Option Int32 := if x0 < 0 then some (-1) else if 10 ≤ x0 then some (-1) else if x1 < 0 then some (-1) else if 6 ≤ x1 then some (-1) else if x2 < 0 then some (-1) else if x2 < 3 then ab_ask (((((x0 * 6) + x1) * 3) + x2) < 0 ∨ 180 ≤ (((((x0 * 6) + x1) * 3) + x2) : Int32).toNatClampNeg) (some (h.1 14 (((((x0 * 6) + x1) * 3) + x2) : Int32).toNatClampNeg)) else some (-1)
set_option maxRecDepth 20000 in
theorem sX7_behind (d : Nat) (X : abX) (x0 : Int32) (x1 : Int32) (x2 : Int32) (h : abJ) (z : Int32) (hf : fX7_behind x0 x1 x2 h = some z) : ab_Ex X (d + 0) 98 0 [(0, .ref 13), (1, .int x0), (2, .int x1), (3, .int x2)] [] ab_SH (ab_dD h) (fun r => r = (some (.int z), ab_SH, ab_dD h)) := by
  unfold fX7_behind at hf
  refine ab_Ex.blk (k := 1) (pc' := 1) (lv' := [(0, .ref 13), (1, .int x0), (2, .int x1), (3, .int x2)]) (st' := [.int x0]) (sh' := ab_SH) (D' := ab_dD h) (fun n => rfl) ?_
  refine ab_Ex.ifc (c := x0 < 0) (SA := (29, [(0, .ref 13), (1, .int x0), (2, .int x1), (3, .int x2)], [], ab_dD h)) (SB := (4, [(0, .ref 13), (1, .int x0), (2, .int x1), (3, .int x2)], [], ab_dD h)) (fun n => rfl) (fun c1 => ?_) (fun c1 => ?_)
  · replace hf := (if_pos c1).symm.trans hf
    refine ab_Ex.blk (k := 1) (pc' := 30) (lv' := []) (st' := [.int ((-1))]) (sh' := ab_SH) (D' := ab_dD h) (fun n => rfl) ?_
    obtain rfl := Option.some.inj hf
    exact ab_Ex.ret (fun n => rfl) rfl
  · replace hf := (if_neg c1).symm.trans hf
    refine ab_Ex.blk (k := 2) (pc' := 7) (lv' := [(0, .ref 13), (1, .int x0), (2, .int x1), (3, .int x2)]) (st' := [.int 10, .int x0]) (sh' := ab_SH) (D' := ab_dD h) (fun n => rfl) ?_
    refine ab_Ex.ifc (c := 10 ≤ x0) (SA := (29, [(0, .ref 13), (1, .int x0), (2, .int x1), (3, .int x2)], [], ab_dD h)) (SB := (10, [(0, .ref 13), (1, .int x0), (2, .int x1), (3, .int x2)], [], ab_dD h)) (fun n => rfl) (fun c2 => ?_) (fun c2 => ?_)
    · replace hf := (if_pos c2).symm.trans hf
      refine ab_Ex.blk (k := 1) (pc' := 30) (lv' := []) (st' := [.int ((-1))]) (sh' := ab_SH) (D' := ab_dD h) (fun n => rfl) ?_
      obtain rfl := Option.some.inj hf
      exact ab_Ex.ret (fun n => rfl) rfl
    · replace hf := (if_neg c2).symm.trans hf
      refine ab_Ex.blk (k := 1) (pc' := 11) (lv' := [(0, .ref 13), (1, .int x0), (2, .int x1), (3, .int x2)]) (st' := [.int x1]) (sh' := ab_SH) (D' := ab_dD h) (fun n => rfl) ?_
      refine ab_Ex.ifc (c := x1 < 0) (SA := (29, [(0, .ref 13), (1, .int x0), (2, .int x1), (3, .int x2)], [], ab_dD h)) (SB := (14, [(0, .ref 13), (1, .int x0), (2, .int x1), (3, .int x2)], [], ab_dD h)) (fun n => rfl) (fun c3 => ?_) (fun c3 => ?_)
      · replace hf := (if_pos c3).symm.trans hf
        refine ab_Ex.blk (k := 1) (pc' := 30) (lv' := []) (st' := [.int ((-1))]) (sh' := ab_SH) (D' := ab_dD h) (fun n => rfl) ?_
        obtain rfl := Option.some.inj hf
        exact ab_Ex.ret (fun n => rfl) rfl
      · replace hf := (if_neg c3).symm.trans hf
        refine ab_Ex.blk (k := 2) (pc' := 17) (lv' := [(0, .ref 13), (1, .int x0), (2, .int x1), (3, .int x2)]) (st' := [.int 6, .int x1]) (sh' := ab_SH) (D' := ab_dD h) (fun n => rfl) ?_
        refine ab_Ex.ifc (c := 6 ≤ x1) (SA := (29, [(0, .ref 13), (1, .int x0), (2, .int x1), (3, .int x2)], [], ab_dD h)) (SB := (20, [(0, .ref 13), (1, .int x0), (2, .int x1), (3, .int x2)], [], ab_dD h)) (fun n => rfl) (fun c4 => ?_) (fun c4 => ?_)
        · replace hf := (if_pos c4).symm.trans hf
          refine ab_Ex.blk (k := 1) (pc' := 30) (lv' := []) (st' := [.int ((-1))]) (sh' := ab_SH) (D' := ab_dD h) (fun n => rfl) ?_
          obtain rfl := Option.some.inj hf
          exact ab_Ex.ret (fun n => rfl) rfl
        · replace hf := (if_neg c4).symm.trans hf
          refine ab_Ex.blk (k := 1) (pc' := 21) (lv' := [(0, .ref 13), (1, .int x0), (2, .int x1), (3, .int x2)]) (st' := [.int x2]) (sh' := ab_SH) (D' := ab_dD h) (fun n => rfl) ?_
          refine ab_Ex.ifc (c := x2 < 0) (SA := (29, [(0, .ref 13), (1, .int x0), (2, .int x1), (3, .int x2)], [], ab_dD h)) (SB := (24, [(0, .ref 13), (1, .int x0), (2, .int x1), (3, .int x2)], [], ab_dD h)) (fun n => rfl) (fun c5 => ?_) (fun c5 => ?_)
          · replace hf := (if_pos c5).symm.trans hf
            refine ab_Ex.blk (k := 1) (pc' := 30) (lv' := []) (st' := [.int ((-1))]) (sh' := ab_SH) (D' := ab_dD h) (fun n => rfl) ?_
            obtain rfl := Option.some.inj hf
            exact ab_Ex.ret (fun n => rfl) rfl
          · replace hf := (if_neg c5).symm.trans hf
            refine ab_Ex.blk (k := 2) (pc' := 26) (lv' := [(0, .ref 13), (1, .int x0), (2, .int x1), (3, .int x2)]) (st' := [.int 3, .int x2]) (sh' := ab_SH) (D' := ab_dD h) (fun n => rfl) ?_
            refine ab_Ex.ifc (c := x2 < 3) (SA := (31, [(0, .ref 13), (1, .int x0), (2, .int x1), (3, .int x2)], [], ab_dD h)) (SB := (29, [(0, .ref 13), (1, .int x0), (2, .int x1), (3, .int x2)], [], ab_dD h)) (fun n => rfl) (fun c6 => ?_) (fun c6 => ?_)
            · replace hf := (if_pos c6).symm.trans hf
              refine ab_Ex.blk (k := 11) (pc' := 45) (lv' := [(0, .ref 13), (1, .int x0), (2, .int x1), (3, .int x2)]) (st' := [.int (((((x0 * 6) + x1) * 3) + x2)), .ref 14]) (sh' := ab_SH) (D' := ab_dD h) (fun n => rfl) ?_
              obtain ⟨c8, hf⟩ := ab_ask_s hf
              refine ab_Ex.grd (c := ((((x0 * 6) + x1) * 3) + x2) < 0 ∨ 180 ≤ (((((x0 * 6) + x1) * 3) + x2) : Int32).toNatClampNeg) (S := (46, [(0, .ref 13), (1, .int x0), (2, .int x1), (3, .int x2)], [.int ((h.1 14 (((((x0 * 6) + x1) * 3) + x2) : Int32).toNatClampNeg))], ab_dD h)) (fun n => rfl) c8 ?_
              obtain rfl := Option.some.inj hf
              exact ab_Ex.ret (fun n => rfl) rfl
            · replace hf := (if_neg c6).symm.trans hf
              refine ab_Ex.blk (k := 1) (pc' := 30) (lv' := []) (st' := [.int ((-1))]) (sh' := ab_SH) (D' := ab_dD h) (fun n => rfl) ?_
              obtain rfl := Option.some.inj hf
              exact ab_Ex.ret (fun n => rfl) rfl
def fX11_withArm (x0 : Int32) (x1 : Int32) (x2 : Int32) (h : abJ) : Option Int32 := if x1 < 0 then some x0 else if x1 < 6 then (fX11_armOf x0 x1 h).bind (fun r3 => ab_ask (x1 < 0 ∨ 7 ≤ (x1 : Int32).toNatClampNeg) (some (x0 + ((x2 - r3) * (ab_wt.getD (x1 : Int32).toNatClampNeg 0))))) else some x0
set_option maxRecDepth 20000 in
theorem sX11_withArm (d : Nat) (X : abX) (x0 : Int32) (x1 : Int32) (x2 : Int32) (h : abJ) (z : Int32) (hf : fX11_withArm x0 x1 x2 h = some z) : ab_Ex X (d + 1) 173 0 [(0, .int x0), (1, .int x1), (2, .int x2)] [] ab_SH (ab_dD h) (fun r => r = (some (.int z), ab_SH, ab_dD h)) := by
  unfold fX11_withArm at hf
  refine ab_Ex.blk (k := 1) (pc' := 1) (lv' := [(0, .int x0), (1, .int x1), (2, .int x2)]) (st' := [.int x1]) (sh' := ab_SH) (D' := ab_dD h) (fun n => rfl) ?_
  refine ab_Ex.ifc (c := x1 < 0) (SA := (10, [(0, .int x0), (1, .int x1), (2, .int x2)], [], ab_dD h)) (SB := (4, [(0, .int x0), (1, .int x1), (2, .int x2)], [], ab_dD h)) (fun n => rfl) (fun c1 => ?_) (fun c1 => ?_)
  · replace hf := (if_pos c1).symm.trans hf
    refine ab_Ex.blk (k := 2) (pc' := 29) (lv' := []) (st' := [.int x0]) (sh' := ab_SH) (D' := ab_dD h) (fun n => rfl) ?_
    obtain rfl := Option.some.inj hf
    exact ab_Ex.ret (fun n => rfl) rfl
  · replace hf := (if_neg c1).symm.trans hf
    refine ab_Ex.blk (k := 2) (pc' := 7) (lv' := [(0, .int x0), (1, .int x1), (2, .int x2)]) (st' := [.int 6, .int x1]) (sh' := ab_SH) (D' := ab_dD h) (fun n => rfl) ?_
    refine ab_Ex.ifc (c := x1 < 6) (SA := (14, [(0, .int x0), (1, .int x1), (2, .int x2)], [], ab_dD h)) (SB := (10, [(0, .int x0), (1, .int x1), (2, .int x2)], [], ab_dD h)) (fun n => rfl) (fun c2 => ?_) (fun c2 => ?_)
    · replace hf := (if_pos c2).symm.trans hf
      refine ab_Ex.blk (k := 4) (pc' := 18) (lv' := [(0, .int x0), (1, .int x1), (2, .int x2)]) (st' := [.int x1, .int x0, .int x2, .int x0]) (sh' := ab_SH) (D' := ab_dD h) (fun n => rfl) ?_
      obtain ⟨r3, hr3, hf⟩ := ab_bind_s hf
      refine ab_Ex.call (d := d + 0) (M2 := 172) (as := [.int x0, .int x1]) (rest := [.int x2, .int x0]) (fun n => rfl) rfl (Nat.not_lt.mpr (Nat.le_of_ble_eq_true rfl)) (sX11_armOf (d) X x0 x1 h _ hr3) (fun r hr => ?_)
      subst hr
      show ab_Ex X (d + 1) 173 21 [(0, .int x0), (1, .int x1), (2, .int x2)] [.int r3, .int x2, .int x0] ab_SH (ab_dD h) _
      refine ab_Ex.blk (k := 3) (pc' := 26) (lv' := [(0, .int x0), (1, .int x1), (2, .int x2)]) (st' := [.int x1, .ref 3000000, .int ((x2 - r3)), .int x0]) (sh' := ab_SH) (D' := ab_dD h) (fun n => rfl) ?_
      obtain ⟨c5, hf⟩ := ab_ask_s hf
      refine ab_Ex.grd (c := x1 < 0 ∨ 7 ≤ (x1 : Int32).toNatClampNeg) (S := (27, [(0, .int x0), (1, .int x1), (2, .int x2)], [.int ((ab_wt.getD (x1 : Int32).toNatClampNeg 0)), .int ((x2 - r3)), .int x0], ab_dD h)) (fun n => rfl) c5 ?_
      refine ab_Ex.blk (k := 2) (pc' := 29) (lv' := []) (st' := [.int ((x0 + ((x2 - r3) * (ab_wt.getD (x1 : Int32).toNatClampNeg 0))))]) (sh' := ab_SH) (D' := ab_dD h) (fun n => rfl) ?_
      obtain rfl := Option.some.inj hf
      exact ab_Ex.ret (fun n => rfl) rfl
    · replace hf := (if_neg c2).symm.trans hf
      refine ab_Ex.blk (k := 2) (pc' := 29) (lv' := []) (st' := [.int x0]) (sh' := ab_SH) (D' := ab_dD h) (fun n => rfl) ?_
      obtain rfl := Option.some.inj hf
      exact ab_Ex.ret (fun n => rfl) rfl
def fX7_nextStand_J51  (h : abJ)  (y3 : Int32) (y4 : Int32) (t0 : Int32) : Option Int32 := if t0 = (-1) then some (-1) else (fX11_withArm y4 y3 ((t0 - t0 / 3 * 3)) h).bind (fun r8 => some ((r8 * 6) + (t0 / 3)))
def fX7_nextStand (x0 : Int32) (x1 : Int32) (h : abJ) : Option Int32 := if x1 < 0 then some (-1) else if x1 < 4374 then (fX3_isHome ((x1 - x1 / 6 * 6)) h).bind (fun r3 => if r3 = 0 then (fX11_armOf ((x1 / 6)) ((x1 - x1 / 6 * 6)) h).bind (fun r5 => (fX7_behind x0 ((x1 - x1 / 6 * 6)) r5 h).bind (fun r6 => fX7_nextStand_J51 h ((x1 - x1 / 6 * 6)) ((x1 / 6)) r6)) else fX7_nextStand_J51 h ((x1 - x1 / 6 * 6)) ((x1 / 6)) ((-1))) else some (-1)
set_option maxRecDepth 20000 in
theorem sX7_nextStand_J51 (d : Nat) (X : abX) (h : abJ)   : ∀ (y3 : Int32) (y4 : Int32) (t0 : Int32) (z : Int32), fX7_nextStand_J51 h y3 y4 t0 = some z → ab_Ex X (d + 2) 99 51 [(3, .int y3), (4, .int y4)] [.int t0] ab_SH (ab_dD h) (fun r => r = (some (.int z), ab_SH, ab_dD h)) := by
  intro y3 y4 t0 z hf
  unfold fX7_nextStand_J51 at hf
  refine ab_Ex.blk (k := 3) (pc' := 56) (lv' := [(5, .int t0), (3, .int y3), (4, .int y4)]) (st' := [.int ((-1)), .int t0]) (sh' := ab_SH) (D' := ab_dD h) (fun n => rfl) ?_
  refine ab_Ex.ifc (c := t0 = (-1)) (SA := (59, [(5, .int t0), (3, .int y3), (4, .int y4)], [], ab_dD h)) (SB := (63, [(5, .int t0), (3, .int y3), (4, .int y4)], [], ab_dD h)) (fun n => rfl) (fun c7 => ?_) (fun c7 => ?_)
  · replace hf := (if_pos c7).symm.trans hf
    refine ab_Ex.blk (k := 2) (pc' := 81) (lv' := []) (st' := [.int ((-1))]) (sh' := ab_SH) (D' := ab_dD h) (fun n => rfl) ?_
    obtain rfl := Option.some.inj hf
    exact ab_Ex.ret (fun n => rfl) rfl
  · replace hf := (if_neg c7).symm.trans hf
    refine ab_Ex.blk (k := 4) (pc' := 69) (lv' := [(5, .int t0), (3, .int y3), (4, .int y4)]) (st' := [.int 3, .int t0, .int y3, .int y4]) (sh' := ab_SH) (D' := ab_dD h) (fun n => rfl) ?_
    refine ab_Ex.blk (k := 1) (pc' := 70) (lv' := [(5, .int t0), (3, .int y3), (4, .int y4)]) (st' := [.int ((t0 - t0 / 3 * 3)), .int y3, .int y4]) (sh' := ab_SH) (D' := ab_dD h) (fun n => rfl) ?_
    obtain ⟨r8, hr8, hf⟩ := ab_bind_s hf
    refine ab_Ex.call (d := d + 1) (M2 := 173) (as := [.int y4, .int y3, .int ((t0 - t0 / 3 * 3))]) (rest := []) (fun n => rfl) rfl (Nat.not_lt.mpr (Nat.le_of_ble_eq_true rfl)) (sX11_withArm (d) X y4 y3 ((t0 - t0 / 3 * 3)) h _ hr8) (fun r hr => ?_)
    subst hr
    show ab_Ex X (d + 2) 99 73 [(5, .int t0), (3, .int y3), (4, .int y4)] [.int r8] ab_SH (ab_dD h) _
    refine ab_Ex.blk (k := 4) (pc' := 79) (lv' := [(5, .int t0), (3, .int y3), (4, .int y4)]) (st' := [.int 3, .int t0, .int ((r8 * 6))]) (sh' := ab_SH) (D' := ab_dD h) (fun n => rfl) ?_
    refine ab_Ex.blk (k := 1) (pc' := 80) (lv' := [(5, .int t0), (3, .int y3), (4, .int y4)]) (st' := [.int ((t0 / 3)), .int ((r8 * 6))]) (sh' := ab_SH) (D' := ab_dD h) (fun n => rfl) ?_
    refine ab_Ex.blk (k := 1) (pc' := 81) (lv' := []) (st' := [.int (((r8 * 6) + (t0 / 3)))]) (sh' := ab_SH) (D' := ab_dD h) (fun n => rfl) ?_
    obtain rfl := Option.some.inj hf
    exact ab_Ex.ret (fun n => rfl) rfl
set_option maxRecDepth 20000 in
theorem sX7_nextStand (d : Nat) (X : abX) (x0 : Int32) (x1 : Int32) (h : abJ) (z : Int32) (hf : fX7_nextStand x0 x1 h = some z) : ab_Ex X (d + 2) 99 0 [(0, .ref 13), (1, .int x0), (2, .int x1)] [] ab_SH (ab_dD h) (fun r => r = (some (.int z), ab_SH, ab_dD h)) := by
  unfold fX7_nextStand at hf
  refine ab_Ex.blk (k := 1) (pc' := 1) (lv' := [(0, .ref 13), (1, .int x0), (2, .int x1)]) (st' := [.int x1]) (sh' := ab_SH) (D' := ab_dD h) (fun n => rfl) ?_
  refine ab_Ex.ifc (c := x1 < 0) (SA := (11, [(0, .ref 13), (1, .int x0), (2, .int x1)], [], ab_dD h)) (SB := (4, [(0, .ref 13), (1, .int x0), (2, .int x1)], [], ab_dD h)) (fun n => rfl) (fun c1 => ?_) (fun c1 => ?_)
  · replace hf := (if_pos c1).symm.trans hf
    refine ab_Ex.blk (k := 1) (pc' := 12) (lv' := []) (st' := [.int ((-1))]) (sh' := ab_SH) (D' := ab_dD h) (fun n => rfl) ?_
    obtain rfl := Option.some.inj hf
    exact ab_Ex.ret (fun n => rfl) rfl
  · replace hf := (if_neg c1).symm.trans hf
    refine ab_Ex.blk (k := 2) (pc' := 8) (lv' := [(0, .ref 13), (1, .int x0), (2, .int x1)]) (st' := [.int 4374, .int x1]) (sh' := ab_SH) (D' := ab_dD h) (fun n => rfl) ?_
    refine ab_Ex.ifc (c := x1 < 4374) (SA := (13, [(0, .ref 13), (1, .int x0), (2, .int x1)], [], ab_dD h)) (SB := (11, [(0, .ref 13), (1, .int x0), (2, .int x1)], [], ab_dD h)) (fun n => rfl) (fun c2 => ?_) (fun c2 => ?_)
    · replace hf := (if_pos c2).symm.trans hf
      refine ab_Ex.blk (k := 2) (pc' := 16) (lv' := [(0, .ref 13), (1, .int x0), (2, .int x1)]) (st' := [.int 6, .int x1]) (sh' := ab_SH) (D' := ab_dD h) (fun n => rfl) ?_
      refine ab_Ex.blk (k := 1) (pc' := 17) (lv' := [(0, .ref 13), (1, .int x0), (2, .int x1)]) (st' := [.int ((x1 - x1 / 6 * 6))]) (sh' := ab_SH) (D' := ab_dD h) (fun n => rfl) ?_
      refine ab_Ex.blk (k := 3) (pc' := 21) (lv' := [(3, .int ((x1 - x1 / 6 * 6))), (0, .ref 13), (1, .int x0), (2, .int x1)]) (st' := [.int 6, .int x1]) (sh' := ab_SH) (D' := ab_dD h) (fun n => rfl) ?_
      refine ab_Ex.blk (k := 1) (pc' := 22) (lv' := [(3, .int ((x1 - x1 / 6 * 6))), (0, .ref 13), (1, .int x0), (2, .int x1)]) (st' := [.int ((x1 / 6))]) (sh' := ab_SH) (D' := ab_dD h) (fun n => rfl) ?_
      refine ab_Ex.blk (k := 4) (pc' := 29) (lv' := [(4, .int ((x1 / 6))), (3, .int ((x1 - x1 / 6 * 6))), (0, .ref 13), (1, .int x0), (2, .int x1)]) (st' := [.int ((x1 - x1 / 6 * 6)), .ref 1]) (sh' := ab_SH) (D' := ab_dD h) (fun n => rfl) ?_
      obtain ⟨r3, hr3, hf⟩ := ab_bind_s hf
      refine ab_Ex.call (d := d + 1) (M2 := 37) (as := [.ref 1, .int ((x1 - x1 / 6 * 6))]) (rest := []) (fun n => rfl) rfl (Nat.not_lt.mpr (Nat.le_of_ble_eq_true rfl)) (sX3_isHome (d) X ((x1 - x1 / 6 * 6)) h _ hr3) (fun r hr => ?_)
      subst hr
      show ab_Ex X (d + 2) 99 32 [(4, .int ((x1 / 6))), (3, .int ((x1 - x1 / 6 * 6))), (0, .ref 13), (1, .int x0), (2, .int x1)] [.int r3] ab_SH (ab_dD h) _
      refine ab_Ex.ifc (c := r3 = 0) (SA := (39, [(4, .int ((x1 / 6))), (3, .int ((x1 - x1 / 6 * 6))), (0, .ref 13), (1, .int x0), (2, .int x1)], [], ab_dD h)) (SB := (35, [(4, .int ((x1 / 6))), (3, .int ((x1 - x1 / 6 * 6))), (0, .ref 13), (1, .int x0), (2, .int x1)], [], ab_dD h)) (fun n => rfl) (fun c4 => ?_) (fun c4 => ?_)
      · replace hf := (if_pos c4).symm.trans hf
        refine ab_Ex.blk (k := 5) (pc' := 45) (lv' := [(4, .int ((x1 / 6))), (3, .int ((x1 - x1 / 6 * 6))), (0, .ref 13), (1, .int x0), (2, .int x1)]) (st' := [.int ((x1 - x1 / 6 * 6)), .int ((x1 / 6)), .int ((x1 - x1 / 6 * 6)), .int x0, .ref 13]) (sh' := ab_SH) (D' := ab_dD h) (fun n => rfl) ?_
        obtain ⟨r5, hr5, hf⟩ := ab_bind_s hf
        refine ab_Ex.call (d := d + 1) (M2 := 172) (as := [.int ((x1 / 6)), .int ((x1 - x1 / 6 * 6))]) (rest := [.int ((x1 - x1 / 6 * 6)), .int x0, .ref 13]) (fun n => rfl) rfl (Nat.not_lt.mpr (Nat.le_of_ble_eq_true rfl)) (sX11_armOf (d + 1) X ((x1 / 6)) ((x1 - x1 / 6 * 6)) h _ hr5) (fun r hr => ?_)
        subst hr
        show ab_Ex X (d + 2) 99 48 [(4, .int ((x1 / 6))), (3, .int ((x1 - x1 / 6 * 6))), (0, .ref 13), (1, .int x0), (2, .int x1)] [.int r5, .int ((x1 - x1 / 6 * 6)), .int x0, .ref 13] ab_SH (ab_dD h) _
        obtain ⟨r6, hr6, hf⟩ := ab_bind_s hf
        refine ab_Ex.call (d := d + 1) (M2 := 98) (as := [.ref 13, .int x0, .int ((x1 - x1 / 6 * 6)), .int r5]) (rest := []) (fun n => rfl) rfl (Nat.not_lt.mpr (Nat.le_of_ble_eq_true rfl)) (sX7_behind (d + 1) X x0 ((x1 - x1 / 6 * 6)) r5 h _ hr6) (fun r hr => ?_)
        subst hr
        show ab_Ex X (d + 2) 99 51 [(3, .int ((x1 - x1 / 6 * 6))), (4, .int ((x1 / 6)))] [.int r6] ab_SH (ab_dD h) _
        exact sX7_nextStand_J51 d X h ((x1 - x1 / 6 * 6)) ((x1 / 6)) r6 _ hf
      · replace hf := (if_neg c4).symm.trans hf
        refine ab_Ex.blk (k := 2) (pc' := 51) (lv' := [(3, .int ((x1 - x1 / 6 * 6))), (4, .int ((x1 / 6)))]) (st' := [.int ((-1))]) (sh' := ab_SH) (D' := ab_dD h) (fun n => rfl) ?_
        exact sX7_nextStand_J51 d X h ((x1 - x1 / 6 * 6)) ((x1 / 6)) ((-1)) _ hf
    · replace hf := (if_neg c2).symm.trans hf
      refine ab_Ex.blk (k := 1) (pc' := 12) (lv' := []) (st' := [.int ((-1))]) (sh' := ab_SH) (D' := ab_dD h) (fun n => rfl) ?_
      obtain rfl := Option.some.inj hf
      exact ab_Ex.ret (fun n => rfl) rfl
def fX0_goOn (x0 : Nat) (h : abJ) : Option (Int32 × abJ) := (fX9_code x0 h).bind (fun r1 => (fX7_nextStand ((h.1 x0 2)) r1 h).bind (fun r2 => if r2 = (-1) then some (2, h) else some (0, (ab_wI (ab_wI (ab_wI h x0 0 (r2 - r2 / 6 * 6)) x0 1 (r2 / 6)) x0 3 ((((ab_wI (ab_wI h x0 0 (r2 - r2 / 6 * 6)) x0 1 (r2 / 6))).1 x0 3) + 1)))))
set_option maxRecDepth 20000 in
theorem sX0_goOn_12 (d : Nat) (X : abX)  (h : abJ) (z : (Int32 × abJ)) (hf : fX0_goOn 12 h = some z) : ab_Ex X (d + 3) 4 0 [(0, .ref 16), (1, .ref 12)] [] ab_SH (ab_dD h) (fun r => r = (some (.int z.1), ab_SH, ab_dD z.2)) := by
  unfold fX0_goOn at hf
  try simp only [Nat.reduceAdd] at hf
  refine ab_Ex.blk (k := 5) (pc' := 9) (lv' := [(0, .ref 16), (1, .ref 12)]) (st' := [.ref 12, .int ((h.1 12 2)), .ref 13]) (sh' := ab_SH) (D' := ab_dD h) (fun n => rfl) ?_
  obtain ⟨r1, hr1, hf⟩ := ab_bind_s hf
  refine ab_Ex.call (d := d + 2) (M2 := 119) (as := [.ref 12]) (rest := [.int ((h.1 12 2)), .ref 13]) (fun n => rfl) rfl (Nat.not_lt.mpr (Nat.le_of_ble_eq_true rfl)) (sX9_code_12 (d + 2) X  h _ hr1) (fun r hr => ?_)
  subst hr
  show ab_Ex X (d + 3) 4 12 [(0, .ref 16), (1, .ref 12)] [.int r1, .int ((h.1 12 2)), .ref 13] ab_SH (ab_dD h) _
  obtain ⟨r2, hr2, hf⟩ := ab_bind_s hf
  refine ab_Ex.call (d := d + 2) (M2 := 99) (as := [.ref 13, .int ((h.1 12 2)), .int r1]) (rest := []) (fun n => rfl) rfl (Nat.not_lt.mpr (Nat.le_of_ble_eq_true rfl)) (sX7_nextStand (d) X ((h.1 12 2)) r1 h _ hr2) (fun r hr => ?_)
  subst hr
  show ab_Ex X (d + 3) 4 15 [(0, .ref 16), (1, .ref 12)] [.int r2] ab_SH (ab_dD h) _
  refine ab_Ex.blk (k := 3) (pc' := 18) (lv' := [(2, .int r2), (0, .ref 16), (1, .ref 12)]) (st' := [.int ((-1)), .int r2]) (sh' := ab_SH) (D' := ab_dD h) (fun n => rfl) ?_
  refine ab_Ex.ifc (c := r2 = (-1)) (SA := (21, [(2, .int r2), (0, .ref 16), (1, .ref 12)], [], ab_dD h)) (SB := (23, [(2, .int r2), (0, .ref 16), (1, .ref 12)], [], ab_dD h)) (fun n => rfl) (fun c3 => ?_) (fun c3 => ?_)
  · replace hf := (if_pos c3).symm.trans hf
    refine ab_Ex.blk (k := 1) (pc' := 22) (lv' := [(2, .int r2), (0, .ref 16), (1, .ref 12)]) (st' := [.int 2]) (sh' := ab_SH) (D' := ab_dD h) (fun n => rfl) ?_
    obtain rfl := Option.some.inj hf
    exact ab_Ex.ret (fun n => rfl) rfl
  · replace hf := (if_neg c3).symm.trans hf
    refine ab_Ex.blk (k := 3) (pc' := 27) (lv' := [(2, .int r2), (0, .ref 16), (1, .ref 12)]) (st' := [.int 6, .int r2, .ref 12]) (sh' := ab_SH) (D' := ab_dD h) (fun n => rfl) ?_
    refine ab_Ex.blk (k := 1) (pc' := 28) (lv' := [(2, .int r2), (0, .ref 16), (1, .ref 12)]) (st' := [.int ((r2 - r2 / 6 * 6)), .ref 12]) (sh' := ab_SH) (D' := ab_dD h) (fun n => rfl) ?_
    refine ab_Ex.blk (k := 4) (pc' := 35) (lv' := [(2, .int r2), (0, .ref 16), (1, .ref 12)]) (st' := [.int 6, .int r2, .ref 12]) (sh' := ab_SH) (D' := ab_dD (ab_wI h 12 0 (r2 - r2 / 6 * 6))) (fun n => rfl) ?_
    refine ab_Ex.blk (k := 1) (pc' := 36) (lv' := [(2, .int r2), (0, .ref 16), (1, .ref 12)]) (st' := [.int ((r2 / 6)), .ref 12]) (sh' := ab_SH) (D' := ab_dD (ab_wI h 12 0 (r2 - r2 / 6 * 6))) (fun n => rfl) ?_
    refine ab_Ex.blk (k := 8) (pc' := 50) (lv' := [(2, .int r2), (0, .ref 16), (1, .ref 12)]) (st' := [.int 0]) (sh' := ab_SH) (D' := ab_dD (ab_wI (ab_wI (ab_wI h 12 0 (r2 - r2 / 6 * 6)) 12 1 (r2 / 6)) 12 3 ((((ab_wI (ab_wI h 12 0 (r2 - r2 / 6 * 6)) 12 1 (r2 / 6))).1 12 3) + 1))) (fun n => rfl) ?_
    obtain rfl := Option.some.inj hf
    exact ab_Ex.ret (fun n => rfl) rfl
set_option maxRecDepth 20000 in
theorem sX0_goOn_18 (d : Nat) (X : abX)  (h : abJ) (z : (Int32 × abJ)) (hf : fX0_goOn 18 h = some z) : ab_Ex X (d + 3) 4 0 [(0, .ref 16), (1, .ref 18)] [] ab_SH (ab_dD h) (fun r => r = (some (.int z.1), ab_SH, ab_dD z.2)) := by
  unfold fX0_goOn at hf
  try simp only [Nat.reduceAdd] at hf
  refine ab_Ex.blk (k := 5) (pc' := 9) (lv' := [(0, .ref 16), (1, .ref 18)]) (st' := [.ref 18, .int ((h.1 18 2)), .ref 13]) (sh' := ab_SH) (D' := ab_dD h) (fun n => rfl) ?_
  obtain ⟨r1, hr1, hf⟩ := ab_bind_s hf
  refine ab_Ex.call (d := d + 2) (M2 := 119) (as := [.ref 18]) (rest := [.int ((h.1 18 2)), .ref 13]) (fun n => rfl) rfl (Nat.not_lt.mpr (Nat.le_of_ble_eq_true rfl)) (sX9_code_18 (d + 2) X  h _ hr1) (fun r hr => ?_)
  subst hr
  show ab_Ex X (d + 3) 4 12 [(0, .ref 16), (1, .ref 18)] [.int r1, .int ((h.1 18 2)), .ref 13] ab_SH (ab_dD h) _
  obtain ⟨r2, hr2, hf⟩ := ab_bind_s hf
  refine ab_Ex.call (d := d + 2) (M2 := 99) (as := [.ref 13, .int ((h.1 18 2)), .int r1]) (rest := []) (fun n => rfl) rfl (Nat.not_lt.mpr (Nat.le_of_ble_eq_true rfl)) (sX7_nextStand (d) X ((h.1 18 2)) r1 h _ hr2) (fun r hr => ?_)
  subst hr
  show ab_Ex X (d + 3) 4 15 [(0, .ref 16), (1, .ref 18)] [.int r2] ab_SH (ab_dD h) _
  refine ab_Ex.blk (k := 3) (pc' := 18) (lv' := [(2, .int r2), (0, .ref 16), (1, .ref 18)]) (st' := [.int ((-1)), .int r2]) (sh' := ab_SH) (D' := ab_dD h) (fun n => rfl) ?_
  refine ab_Ex.ifc (c := r2 = (-1)) (SA := (21, [(2, .int r2), (0, .ref 16), (1, .ref 18)], [], ab_dD h)) (SB := (23, [(2, .int r2), (0, .ref 16), (1, .ref 18)], [], ab_dD h)) (fun n => rfl) (fun c3 => ?_) (fun c3 => ?_)
  · replace hf := (if_pos c3).symm.trans hf
    refine ab_Ex.blk (k := 1) (pc' := 22) (lv' := [(2, .int r2), (0, .ref 16), (1, .ref 18)]) (st' := [.int 2]) (sh' := ab_SH) (D' := ab_dD h) (fun n => rfl) ?_
    obtain rfl := Option.some.inj hf
    exact ab_Ex.ret (fun n => rfl) rfl
  · replace hf := (if_neg c3).symm.trans hf
    refine ab_Ex.blk (k := 3) (pc' := 27) (lv' := [(2, .int r2), (0, .ref 16), (1, .ref 18)]) (st' := [.int 6, .int r2, .ref 18]) (sh' := ab_SH) (D' := ab_dD h) (fun n => rfl) ?_
    refine ab_Ex.blk (k := 1) (pc' := 28) (lv' := [(2, .int r2), (0, .ref 16), (1, .ref 18)]) (st' := [.int ((r2 - r2 / 6 * 6)), .ref 18]) (sh' := ab_SH) (D' := ab_dD h) (fun n => rfl) ?_
    refine ab_Ex.blk (k := 4) (pc' := 35) (lv' := [(2, .int r2), (0, .ref 16), (1, .ref 18)]) (st' := [.int 6, .int r2, .ref 18]) (sh' := ab_SH) (D' := ab_dD (ab_wI h 18 0 (r2 - r2 / 6 * 6))) (fun n => rfl) ?_
    refine ab_Ex.blk (k := 1) (pc' := 36) (lv' := [(2, .int r2), (0, .ref 16), (1, .ref 18)]) (st' := [.int ((r2 / 6)), .ref 18]) (sh' := ab_SH) (D' := ab_dD (ab_wI h 18 0 (r2 - r2 / 6 * 6))) (fun n => rfl) ?_
    refine ab_Ex.blk (k := 8) (pc' := 50) (lv' := [(2, .int r2), (0, .ref 16), (1, .ref 18)]) (st' := [.int 0]) (sh' := ab_SH) (D' := ab_dD (ab_wI (ab_wI (ab_wI h 18 0 (r2 - r2 / 6 * 6)) 18 1 (r2 / 6)) 18 3 ((((ab_wI (ab_wI h 18 0 (r2 - r2 / 6 * 6)) 18 1 (r2 / 6))).1 18 3) + 1))) (fun n => rfl) ?_
    obtain rfl := Option.some.inj hf
    exact ab_Ex.ret (fun n => rfl) rfl
def fX3_roadsOf (o : Nat) (x0 : Int32) (h : abJ) : Option Int32 := if x0 < 0 then some 0 else if (h.1 o 0) ≤ x0 then some 0 else if x0 < 6 then ab_ask (x0 < 0 ∨ 6 ≤ (x0 : Int32).toNatClampNeg) (some (h.1 (o + 1) (x0 : Int32).toNatClampNeg)) else some 0
set_option maxRecDepth 20000 in
theorem sX3_roadsOf_1 (d : Nat) (X : abX) (x0 : Int32) (h : abJ) (z : Int32) (hf : fX3_roadsOf 1 x0 h = some z) : ab_Ex X (d + 0) 35 0 [(0, .ref 1), (1, .int x0)] [] ab_SH (ab_dD h) (fun r => r = (some (.int z), ab_SH, ab_dD h)) := by
  unfold fX3_roadsOf at hf
  try simp only [Nat.reduceAdd] at hf
  refine ab_Ex.blk (k := 1) (pc' := 1) (lv' := [(0, .ref 1), (1, .int x0)]) (st' := [.int x0]) (sh' := ab_SH) (D' := ab_dD h) (fun n => rfl) ?_
  refine ab_Ex.ifc (c := x0 < 0) (SA := (18, [(0, .ref 1), (1, .int x0)], [], ab_dD h)) (SB := (4, [(0, .ref 1), (1, .int x0)], [], ab_dD h)) (fun n => rfl) (fun c1 => ?_) (fun c1 => ?_)
  · replace hf := (if_pos c1).symm.trans hf
    refine ab_Ex.blk (k := 2) (pc' := 28) (lv' := []) (st' := [.int 0]) (sh' := ab_SH) (D' := ab_dD h) (fun n => rfl) ?_
    obtain rfl := Option.some.inj hf
    exact ab_Ex.ret (fun n => rfl) rfl
  · replace hf := (if_neg c1).symm.trans hf
    refine ab_Ex.blk (k := 3) (pc' := 9) (lv' := [(0, .ref 1), (1, .int x0)]) (st' := [.int ((h.1 1 0)), .int x0]) (sh' := ab_SH) (D' := ab_dD h) (fun n => rfl) ?_
    refine ab_Ex.ifc (c := (h.1 1 0) ≤ x0) (SA := (18, [(0, .ref 1), (1, .int x0)], [], ab_dD h)) (SB := (12, [(0, .ref 1), (1, .int x0)], [], ab_dD h)) (fun n => rfl) (fun c2 => ?_) (fun c2 => ?_)
    · replace hf := (if_pos c2).symm.trans hf
      refine ab_Ex.blk (k := 2) (pc' := 28) (lv' := []) (st' := [.int 0]) (sh' := ab_SH) (D' := ab_dD h) (fun n => rfl) ?_
      obtain rfl := Option.some.inj hf
      exact ab_Ex.ret (fun n => rfl) rfl
    · replace hf := (if_neg c2).symm.trans hf
      refine ab_Ex.blk (k := 2) (pc' := 15) (lv' := [(0, .ref 1), (1, .int x0)]) (st' := [.int 6, .int x0]) (sh' := ab_SH) (D' := ab_dD h) (fun n => rfl) ?_
      refine ab_Ex.ifc (c := x0 < 6) (SA := (22, [(0, .ref 1), (1, .int x0)], [], ab_dD h)) (SB := (18, [(0, .ref 1), (1, .int x0)], [], ab_dD h)) (fun n => rfl) (fun c3 => ?_) (fun c3 => ?_)
      · replace hf := (if_pos c3).symm.trans hf
        refine ab_Ex.blk (k := 3) (pc' := 27) (lv' := [(0, .ref 1), (1, .int x0)]) (st' := [.int x0, .ref 2]) (sh' := ab_SH) (D' := ab_dD h) (fun n => rfl) ?_
        obtain ⟨c5, hf⟩ := ab_ask_s hf
        refine ab_Ex.grd (c := x0 < 0 ∨ 6 ≤ (x0 : Int32).toNatClampNeg) (S := (28, [(0, .ref 1), (1, .int x0)], [.int ((h.1 2 (x0 : Int32).toNatClampNeg))], ab_dD h)) (fun n => rfl) c5 ?_
        obtain rfl := Option.some.inj hf
        exact ab_Ex.ret (fun n => rfl) rfl
      · replace hf := (if_neg c3).symm.trans hf
        refine ab_Ex.blk (k := 2) (pc' := 28) (lv' := []) (st' := [.int 0]) (sh' := ab_SH) (D' := ab_dD h) (fun n => rfl) ?_
        obtain rfl := Option.some.inj hf
        exact ab_Ex.ret (fun n => rfl) rfl
set_option maxRecDepth 20000 in
theorem sX3_roadsOf_5 (d : Nat) (X : abX) (x0 : Int32) (h : abJ) (z : Int32) (hf : fX3_roadsOf 5 x0 h = some z) : ab_Ex X (d + 0) 35 0 [(0, .ref 5), (1, .int x0)] [] ab_SH (ab_dD h) (fun r => r = (some (.int z), ab_SH, ab_dD h)) := by
  unfold fX3_roadsOf at hf
  try simp only [Nat.reduceAdd] at hf
  refine ab_Ex.blk (k := 1) (pc' := 1) (lv' := [(0, .ref 5), (1, .int x0)]) (st' := [.int x0]) (sh' := ab_SH) (D' := ab_dD h) (fun n => rfl) ?_
  refine ab_Ex.ifc (c := x0 < 0) (SA := (18, [(0, .ref 5), (1, .int x0)], [], ab_dD h)) (SB := (4, [(0, .ref 5), (1, .int x0)], [], ab_dD h)) (fun n => rfl) (fun c1 => ?_) (fun c1 => ?_)
  · replace hf := (if_pos c1).symm.trans hf
    refine ab_Ex.blk (k := 2) (pc' := 28) (lv' := []) (st' := [.int 0]) (sh' := ab_SH) (D' := ab_dD h) (fun n => rfl) ?_
    obtain rfl := Option.some.inj hf
    exact ab_Ex.ret (fun n => rfl) rfl
  · replace hf := (if_neg c1).symm.trans hf
    refine ab_Ex.blk (k := 3) (pc' := 9) (lv' := [(0, .ref 5), (1, .int x0)]) (st' := [.int ((h.1 5 0)), .int x0]) (sh' := ab_SH) (D' := ab_dD h) (fun n => rfl) ?_
    refine ab_Ex.ifc (c := (h.1 5 0) ≤ x0) (SA := (18, [(0, .ref 5), (1, .int x0)], [], ab_dD h)) (SB := (12, [(0, .ref 5), (1, .int x0)], [], ab_dD h)) (fun n => rfl) (fun c2 => ?_) (fun c2 => ?_)
    · replace hf := (if_pos c2).symm.trans hf
      refine ab_Ex.blk (k := 2) (pc' := 28) (lv' := []) (st' := [.int 0]) (sh' := ab_SH) (D' := ab_dD h) (fun n => rfl) ?_
      obtain rfl := Option.some.inj hf
      exact ab_Ex.ret (fun n => rfl) rfl
    · replace hf := (if_neg c2).symm.trans hf
      refine ab_Ex.blk (k := 2) (pc' := 15) (lv' := [(0, .ref 5), (1, .int x0)]) (st' := [.int 6, .int x0]) (sh' := ab_SH) (D' := ab_dD h) (fun n => rfl) ?_
      refine ab_Ex.ifc (c := x0 < 6) (SA := (22, [(0, .ref 5), (1, .int x0)], [], ab_dD h)) (SB := (18, [(0, .ref 5), (1, .int x0)], [], ab_dD h)) (fun n => rfl) (fun c3 => ?_) (fun c3 => ?_)
      · replace hf := (if_pos c3).symm.trans hf
        refine ab_Ex.blk (k := 3) (pc' := 27) (lv' := [(0, .ref 5), (1, .int x0)]) (st' := [.int x0, .ref 6]) (sh' := ab_SH) (D' := ab_dD h) (fun n => rfl) ?_
        obtain ⟨c5, hf⟩ := ab_ask_s hf
        refine ab_Ex.grd (c := x0 < 0 ∨ 6 ≤ (x0 : Int32).toNatClampNeg) (S := (28, [(0, .ref 5), (1, .int x0)], [.int ((h.1 6 (x0 : Int32).toNatClampNeg))], ab_dD h)) (fun n => rfl) c5 ?_
        obtain rfl := Option.some.inj hf
        exact ab_Ex.ret (fun n => rfl) rfl
      · replace hf := (if_neg c3).symm.trans hf
        refine ab_Ex.blk (k := 2) (pc' := 28) (lv' := []) (st' := [.int 0]) (sh' := ab_SH) (D' := ab_dD h) (fun n => rfl) ?_
        obtain rfl := Option.some.inj hf
        exact ab_Ex.ret (fun n => rfl) rfl
def fX0_turnArm (x0 : Nat) (x1 : Int32) (x2 : Int32) (h : abJ) : Option (Int32 × abJ) := if x2 < 0 then some (1, h) else (fX3_roadsOf 1 x1 h).bind (fun r2 => if x2 < r2 then (fX11_withArm ((h.1 x0 1)) x1 x2 h).bind (fun r4 => some (0, (ab_wI h x0 1 r4))) else some (1, h))
set_option maxRecDepth 20000 in
theorem sX0_turnArm_12 (d : Nat) (X : abX) (x1 : Int32) (x2 : Int32) (h : abJ) (z : (Int32 × abJ)) (hf : fX0_turnArm 12 x1 x2 h = some z) : ab_Ex X (d + 2) 5 0 [(0, .ref 16), (1, .ref 12), (2, .int x1), (3, .int x2)] [] ab_SH (ab_dD h) (fun r => r = (some (.int z.1), ab_SH, ab_dD z.2)) := by
  unfold fX0_turnArm at hf
  try simp only [Nat.reduceAdd] at hf
  refine ab_Ex.blk (k := 1) (pc' := 1) (lv' := [(0, .ref 16), (1, .ref 12), (2, .int x1), (3, .int x2)]) (st' := [.int x2]) (sh' := ab_SH) (D' := ab_dD h) (fun n => rfl) ?_
  refine ab_Ex.ifc (c := x2 < 0) (SA := (16, [(0, .ref 16), (1, .ref 12), (2, .int x1), (3, .int x2)], [], ab_dD h)) (SB := (4, [(0, .ref 16), (1, .ref 12), (2, .int x1), (3, .int x2)], [], ab_dD h)) (fun n => rfl) (fun c1 => ?_) (fun c1 => ?_)
  · replace hf := (if_pos c1).symm.trans hf
    refine ab_Ex.blk (k := 1) (pc' := 17) (lv' := []) (st' := [.int 1]) (sh' := ab_SH) (D' := ab_dD h) (fun n => rfl) ?_
    obtain rfl := Option.some.inj hf
    exact ab_Ex.ret (fun n => rfl) rfl
  · replace hf := (if_neg c1).symm.trans hf
    refine ab_Ex.blk (k := 4) (pc' := 10) (lv' := [(0, .ref 16), (1, .ref 12), (2, .int x1), (3, .int x2)]) (st' := [.int x1, .ref 1, .int x2]) (sh' := ab_SH) (D' := ab_dD h) (fun n => rfl) ?_
    obtain ⟨r2, hr2, hf⟩ := ab_bind_s hf
    refine ab_Ex.call (d := d + 1) (M2 := 35) (as := [.ref 1, .int x1]) (rest := [.int x2]) (fun n => rfl) rfl (Nat.not_lt.mpr (Nat.le_of_ble_eq_true rfl)) (sX3_roadsOf_1 (d + 1) X x1 h _ hr2) (fun r hr => ?_)
    subst hr
    show ab_Ex X (d + 2) 5 13 [(0, .ref 16), (1, .ref 12), (2, .int x1), (3, .int x2)] [.int r2, .int x2] ab_SH (ab_dD h) _
    refine ab_Ex.ifc (c := x2 < r2) (SA := (18, [(0, .ref 16), (1, .ref 12), (2, .int x1), (3, .int x2)], [], ab_dD h)) (SB := (16, [(0, .ref 16), (1, .ref 12), (2, .int x1), (3, .int x2)], [], ab_dD h)) (fun n => rfl) (fun c3 => ?_) (fun c3 => ?_)
    · replace hf := (if_pos c3).symm.trans hf
      refine ab_Ex.blk (k := 5) (pc' := 25) (lv' := [(0, .ref 16), (1, .ref 12), (2, .int x1), (3, .int x2)]) (st' := [.int x2, .int x1, .int ((h.1 12 1)), .ref 12]) (sh' := ab_SH) (D' := ab_dD h) (fun n => rfl) ?_
      obtain ⟨r4, hr4, hf⟩ := ab_bind_s hf
      refine ab_Ex.call (d := d + 1) (M2 := 173) (as := [.int ((h.1 12 1)), .int x1, .int x2]) (rest := [.ref 12]) (fun n => rfl) rfl (Nat.not_lt.mpr (Nat.le_of_ble_eq_true rfl)) (sX11_withArm (d) X ((h.1 12 1)) x1 x2 h _ hr4) (fun r hr => ?_)
      subst hr
      show ab_Ex X (d + 2) 5 28 [(0, .ref 16), (1, .ref 12), (2, .int x1), (3, .int x2)] [.int r4, .ref 12] ab_SH (ab_dD h) _
      refine ab_Ex.blk (k := 2) (pc' := 32) (lv' := [(0, .ref 16), (1, .ref 12), (2, .int x1), (3, .int x2)]) (st' := [.int 0]) (sh' := ab_SH) (D' := ab_dD (ab_wI h 12 1 r4)) (fun n => rfl) ?_
      obtain rfl := Option.some.inj hf
      exact ab_Ex.ret (fun n => rfl) rfl
    · replace hf := (if_neg c3).symm.trans hf
      refine ab_Ex.blk (k := 1) (pc' := 17) (lv' := []) (st' := [.int 1]) (sh' := ab_SH) (D' := ab_dD h) (fun n => rfl) ?_
      obtain rfl := Option.some.inj hf
      exact ab_Ex.ret (fun n => rfl) rfl
set_option maxRecDepth 20000 in
theorem sX0_turnArm_18 (d : Nat) (X : abX) (x1 : Int32) (x2 : Int32) (h : abJ) (z : (Int32 × abJ)) (hf : fX0_turnArm 18 x1 x2 h = some z) : ab_Ex X (d + 2) 5 0 [(0, .ref 16), (1, .ref 18), (2, .int x1), (3, .int x2)] [] ab_SH (ab_dD h) (fun r => r = (some (.int z.1), ab_SH, ab_dD z.2)) := by
  unfold fX0_turnArm at hf
  try simp only [Nat.reduceAdd] at hf
  refine ab_Ex.blk (k := 1) (pc' := 1) (lv' := [(0, .ref 16), (1, .ref 18), (2, .int x1), (3, .int x2)]) (st' := [.int x2]) (sh' := ab_SH) (D' := ab_dD h) (fun n => rfl) ?_
  refine ab_Ex.ifc (c := x2 < 0) (SA := (16, [(0, .ref 16), (1, .ref 18), (2, .int x1), (3, .int x2)], [], ab_dD h)) (SB := (4, [(0, .ref 16), (1, .ref 18), (2, .int x1), (3, .int x2)], [], ab_dD h)) (fun n => rfl) (fun c1 => ?_) (fun c1 => ?_)
  · replace hf := (if_pos c1).symm.trans hf
    refine ab_Ex.blk (k := 1) (pc' := 17) (lv' := []) (st' := [.int 1]) (sh' := ab_SH) (D' := ab_dD h) (fun n => rfl) ?_
    obtain rfl := Option.some.inj hf
    exact ab_Ex.ret (fun n => rfl) rfl
  · replace hf := (if_neg c1).symm.trans hf
    refine ab_Ex.blk (k := 4) (pc' := 10) (lv' := [(0, .ref 16), (1, .ref 18), (2, .int x1), (3, .int x2)]) (st' := [.int x1, .ref 1, .int x2]) (sh' := ab_SH) (D' := ab_dD h) (fun n => rfl) ?_
    obtain ⟨r2, hr2, hf⟩ := ab_bind_s hf
    refine ab_Ex.call (d := d + 1) (M2 := 35) (as := [.ref 1, .int x1]) (rest := [.int x2]) (fun n => rfl) rfl (Nat.not_lt.mpr (Nat.le_of_ble_eq_true rfl)) (sX3_roadsOf_1 (d + 1) X x1 h _ hr2) (fun r hr => ?_)
    subst hr
    show ab_Ex X (d + 2) 5 13 [(0, .ref 16), (1, .ref 18), (2, .int x1), (3, .int x2)] [.int r2, .int x2] ab_SH (ab_dD h) _
    refine ab_Ex.ifc (c := x2 < r2) (SA := (18, [(0, .ref 16), (1, .ref 18), (2, .int x1), (3, .int x2)], [], ab_dD h)) (SB := (16, [(0, .ref 16), (1, .ref 18), (2, .int x1), (3, .int x2)], [], ab_dD h)) (fun n => rfl) (fun c3 => ?_) (fun c3 => ?_)
    · replace hf := (if_pos c3).symm.trans hf
      refine ab_Ex.blk (k := 5) (pc' := 25) (lv' := [(0, .ref 16), (1, .ref 18), (2, .int x1), (3, .int x2)]) (st' := [.int x2, .int x1, .int ((h.1 18 1)), .ref 18]) (sh' := ab_SH) (D' := ab_dD h) (fun n => rfl) ?_
      obtain ⟨r4, hr4, hf⟩ := ab_bind_s hf
      refine ab_Ex.call (d := d + 1) (M2 := 173) (as := [.int ((h.1 18 1)), .int x1, .int x2]) (rest := [.ref 18]) (fun n => rfl) rfl (Nat.not_lt.mpr (Nat.le_of_ble_eq_true rfl)) (sX11_withArm (d) X ((h.1 18 1)) x1 x2 h _ hr4) (fun r hr => ?_)
      subst hr
      show ab_Ex X (d + 2) 5 28 [(0, .ref 16), (1, .ref 18), (2, .int x1), (3, .int x2)] [.int r4, .ref 18] ab_SH (ab_dD h) _
      refine ab_Ex.blk (k := 2) (pc' := 32) (lv' := [(0, .ref 16), (1, .ref 18), (2, .int x1), (3, .int x2)]) (st' := [.int 0]) (sh' := ab_SH) (D' := ab_dD (ab_wI h 18 1 r4)) (fun n => rfl) ?_
      obtain rfl := Option.some.inj hf
      exact ab_Ex.ret (fun n => rfl) rfl
    · replace hf := (if_neg c3).symm.trans hf
      refine ab_Ex.blk (k := 1) (pc' := 17) (lv' := []) (st' := [.int 1]) (sh' := ab_SH) (D' := ab_dD h) (fun n => rfl) ?_
      obtain rfl := Option.some.inj hf
      exact ab_Ex.ret (fun n => rfl) rfl
def fX3_has (o : Nat) (x0 : Int32) (h : abJ) : Option Int32 := if x0 < 0 then some 0 else if (h.1 o 0) ≤ x0 then some 0 else if 6 ≤ x0 then some 0 else some 1
set_option maxRecDepth 20000 in
theorem sX3_has_1 (d : Nat) (X : abX) (x0 : Int32) (h : abJ) (z : Int32) (hf : fX3_has 1 x0 h = some z) : ab_Ex X (d + 0) 34 0 [(0, .ref 1), (1, .int x0)] [] ab_SH (ab_dD h) (fun r => r = (some (.int z), ab_SH, ab_dD h)) := by
  unfold fX3_has at hf
  try simp only [Nat.reduceAdd] at hf
  refine ab_Ex.blk (k := 1) (pc' := 1) (lv' := [(0, .ref 1), (1, .int x0)]) (st' := [.int x0]) (sh' := ab_SH) (D' := ab_dD h) (fun n => rfl) ?_
  refine ab_Ex.ifc (c := x0 < 0) (SA := (22, [(0, .ref 1), (1, .int x0)], [], ab_dD h)) (SB := (4, [(0, .ref 1), (1, .int x0)], [], ab_dD h)) (fun n => rfl) (fun c1 => ?_) (fun c1 => ?_)
  · replace hf := (if_pos c1).symm.trans hf
    refine ab_Ex.blk (k := 1) (pc' := 23) (lv' := []) (st' := [.int 0]) (sh' := ab_SH) (D' := ab_dD h) (fun n => rfl) ?_
    obtain rfl := Option.some.inj hf
    exact ab_Ex.ret (fun n => rfl) rfl
  · replace hf := (if_neg c1).symm.trans hf
    refine ab_Ex.blk (k := 3) (pc' := 9) (lv' := [(0, .ref 1), (1, .int x0)]) (st' := [.int ((h.1 1 0)), .int x0]) (sh' := ab_SH) (D' := ab_dD h) (fun n => rfl) ?_
    refine ab_Ex.ifc (c := (h.1 1 0) ≤ x0) (SA := (22, [(0, .ref 1), (1, .int x0)], [], ab_dD h)) (SB := (12, [(0, .ref 1), (1, .int x0)], [], ab_dD h)) (fun n => rfl) (fun c2 => ?_) (fun c2 => ?_)
    · replace hf := (if_pos c2).symm.trans hf
      refine ab_Ex.blk (k := 1) (pc' := 23) (lv' := []) (st' := [.int 0]) (sh' := ab_SH) (D' := ab_dD h) (fun n => rfl) ?_
      obtain rfl := Option.some.inj hf
      exact ab_Ex.ret (fun n => rfl) rfl
    · replace hf := (if_neg c2).symm.trans hf
      refine ab_Ex.blk (k := 2) (pc' := 15) (lv' := [(0, .ref 1), (1, .int x0)]) (st' := [.int 6, .int x0]) (sh' := ab_SH) (D' := ab_dD h) (fun n => rfl) ?_
      refine ab_Ex.ifc (c := 6 ≤ x0) (SA := (22, [(0, .ref 1), (1, .int x0)], [], ab_dD h)) (SB := (18, [(0, .ref 1), (1, .int x0)], [], ab_dD h)) (fun n => rfl) (fun c3 => ?_) (fun c3 => ?_)
      · replace hf := (if_pos c3).symm.trans hf
        refine ab_Ex.blk (k := 1) (pc' := 23) (lv' := []) (st' := [.int 0]) (sh' := ab_SH) (D' := ab_dD h) (fun n => rfl) ?_
        obtain rfl := Option.some.inj hf
        exact ab_Ex.ret (fun n => rfl) rfl
      · replace hf := (if_neg c3).symm.trans hf
        refine ab_Ex.blk (k := 2) (pc' := 23) (lv' := []) (st' := [.int 1]) (sh' := ab_SH) (D' := ab_dD h) (fun n => rfl) ?_
        obtain rfl := Option.some.inj hf
        exact ab_Ex.ret (fun n => rfl) rfl
set_option maxRecDepth 20000 in
theorem sX3_has_5 (d : Nat) (X : abX) (x0 : Int32) (h : abJ) (z : Int32) (hf : fX3_has 5 x0 h = some z) : ab_Ex X (d + 0) 34 0 [(0, .ref 5), (1, .int x0)] [] ab_SH (ab_dD h) (fun r => r = (some (.int z), ab_SH, ab_dD h)) := by
  unfold fX3_has at hf
  try simp only [Nat.reduceAdd] at hf
  refine ab_Ex.blk (k := 1) (pc' := 1) (lv' := [(0, .ref 5), (1, .int x0)]) (st' := [.int x0]) (sh' := ab_SH) (D' := ab_dD h) (fun n => rfl) ?_
  refine ab_Ex.ifc (c := x0 < 0) (SA := (22, [(0, .ref 5), (1, .int x0)], [], ab_dD h)) (SB := (4, [(0, .ref 5), (1, .int x0)], [], ab_dD h)) (fun n => rfl) (fun c1 => ?_) (fun c1 => ?_)
  · replace hf := (if_pos c1).symm.trans hf
    refine ab_Ex.blk (k := 1) (pc' := 23) (lv' := []) (st' := [.int 0]) (sh' := ab_SH) (D' := ab_dD h) (fun n => rfl) ?_
    obtain rfl := Option.some.inj hf
    exact ab_Ex.ret (fun n => rfl) rfl
  · replace hf := (if_neg c1).symm.trans hf
    refine ab_Ex.blk (k := 3) (pc' := 9) (lv' := [(0, .ref 5), (1, .int x0)]) (st' := [.int ((h.1 5 0)), .int x0]) (sh' := ab_SH) (D' := ab_dD h) (fun n => rfl) ?_
    refine ab_Ex.ifc (c := (h.1 5 0) ≤ x0) (SA := (22, [(0, .ref 5), (1, .int x0)], [], ab_dD h)) (SB := (12, [(0, .ref 5), (1, .int x0)], [], ab_dD h)) (fun n => rfl) (fun c2 => ?_) (fun c2 => ?_)
    · replace hf := (if_pos c2).symm.trans hf
      refine ab_Ex.blk (k := 1) (pc' := 23) (lv' := []) (st' := [.int 0]) (sh' := ab_SH) (D' := ab_dD h) (fun n => rfl) ?_
      obtain rfl := Option.some.inj hf
      exact ab_Ex.ret (fun n => rfl) rfl
    · replace hf := (if_neg c2).symm.trans hf
      refine ab_Ex.blk (k := 2) (pc' := 15) (lv' := [(0, .ref 5), (1, .int x0)]) (st' := [.int 6, .int x0]) (sh' := ab_SH) (D' := ab_dD h) (fun n => rfl) ?_
      refine ab_Ex.ifc (c := 6 ≤ x0) (SA := (22, [(0, .ref 5), (1, .int x0)], [], ab_dD h)) (SB := (18, [(0, .ref 5), (1, .int x0)], [], ab_dD h)) (fun n => rfl) (fun c3 => ?_) (fun c3 => ?_)
      · replace hf := (if_pos c3).symm.trans hf
        refine ab_Ex.blk (k := 1) (pc' := 23) (lv' := []) (st' := [.int 0]) (sh' := ab_SH) (D' := ab_dD h) (fun n => rfl) ?_
        obtain rfl := Option.some.inj hf
        exact ab_Ex.ret (fun n => rfl) rfl
      · replace hf := (if_neg c3).symm.trans hf
        refine ab_Ex.blk (k := 2) (pc' := 23) (lv' := []) (st' := [.int 1]) (sh' := ab_SH) (D' := ab_dD h) (fun n => rfl) ?_
        obtain rfl := Option.some.inj hf
        exact ab_Ex.ret (fun n => rfl) rfl
def fX0_setOut (x0 : Nat) (x1 : Int32) (h : abJ) : Option (Int32 × abJ) := (fX3_has 1 x1 h).bind (fun r1 => if r1 = 0 then some (1, h) else some (0, (ab_wI h x0 0 x1)))
set_option maxRecDepth 20000 in
theorem sX0_setOut_12 (d : Nat) (X : abX) (x1 : Int32) (h : abJ) (z : (Int32 × abJ)) (hf : fX0_setOut 12 x1 h = some z) : ab_Ex X (d + 1) 6 0 [(0, .ref 16), (1, .ref 12), (2, .int x1)] [] ab_SH (ab_dD h) (fun r => r = (some (.int z.1), ab_SH, ab_dD z.2)) := by
  unfold fX0_setOut at hf
  try simp only [Nat.reduceAdd] at hf
  refine ab_Ex.blk (k := 3) (pc' := 5) (lv' := [(0, .ref 16), (1, .ref 12), (2, .int x1)]) (st' := [.int x1, .ref 1]) (sh' := ab_SH) (D' := ab_dD h) (fun n => rfl) ?_
  obtain ⟨r1, hr1, hf⟩ := ab_bind_s hf
  refine ab_Ex.call (d := d + 0) (M2 := 34) (as := [.ref 1, .int x1]) (rest := []) (fun n => rfl) rfl (Nat.not_lt.mpr (Nat.le_of_ble_eq_true rfl)) (sX3_has_1 (d) X x1 h _ hr1) (fun r hr => ?_)
  subst hr
  show ab_Ex X (d + 1) 6 8 [(0, .ref 16), (1, .ref 12), (2, .int x1)] [.int r1] ab_SH (ab_dD h) _
  refine ab_Ex.ifc (c := r1 = 0) (SA := (11, [(0, .ref 16), (1, .ref 12), (2, .int x1)], [], ab_dD h)) (SB := (13, [(0, .ref 16), (1, .ref 12), (2, .int x1)], [], ab_dD h)) (fun n => rfl) (fun c2 => ?_) (fun c2 => ?_)
  · replace hf := (if_pos c2).symm.trans hf
    refine ab_Ex.blk (k := 1) (pc' := 12) (lv' := [(0, .ref 16), (1, .ref 12), (2, .int x1)]) (st' := [.int 1]) (sh' := ab_SH) (D' := ab_dD h) (fun n => rfl) ?_
    obtain rfl := Option.some.inj hf
    exact ab_Ex.ret (fun n => rfl) rfl
  · replace hf := (if_neg c2).symm.trans hf
    refine ab_Ex.blk (k := 4) (pc' := 19) (lv' := [(0, .ref 16), (1, .ref 12), (2, .int x1)]) (st' := [.int 0]) (sh' := ab_SH) (D' := ab_dD (ab_wI h 12 0 x1)) (fun n => rfl) ?_
    obtain rfl := Option.some.inj hf
    exact ab_Ex.ret (fun n => rfl) rfl
set_option maxRecDepth 20000 in
theorem sX0_setOut_18 (d : Nat) (X : abX) (x1 : Int32) (h : abJ) (z : (Int32 × abJ)) (hf : fX0_setOut 18 x1 h = some z) : ab_Ex X (d + 1) 6 0 [(0, .ref 16), (1, .ref 18), (2, .int x1)] [] ab_SH (ab_dD h) (fun r => r = (some (.int z.1), ab_SH, ab_dD z.2)) := by
  unfold fX0_setOut at hf
  try simp only [Nat.reduceAdd] at hf
  refine ab_Ex.blk (k := 3) (pc' := 5) (lv' := [(0, .ref 16), (1, .ref 18), (2, .int x1)]) (st' := [.int x1, .ref 1]) (sh' := ab_SH) (D' := ab_dD h) (fun n => rfl) ?_
  obtain ⟨r1, hr1, hf⟩ := ab_bind_s hf
  refine ab_Ex.call (d := d + 0) (M2 := 34) (as := [.ref 1, .int x1]) (rest := []) (fun n => rfl) rfl (Nat.not_lt.mpr (Nat.le_of_ble_eq_true rfl)) (sX3_has_1 (d) X x1 h _ hr1) (fun r hr => ?_)
  subst hr
  show ab_Ex X (d + 1) 6 8 [(0, .ref 16), (1, .ref 18), (2, .int x1)] [.int r1] ab_SH (ab_dD h) _
  refine ab_Ex.ifc (c := r1 = 0) (SA := (11, [(0, .ref 16), (1, .ref 18), (2, .int x1)], [], ab_dD h)) (SB := (13, [(0, .ref 16), (1, .ref 18), (2, .int x1)], [], ab_dD h)) (fun n => rfl) (fun c2 => ?_) (fun c2 => ?_)
  · replace hf := (if_pos c2).symm.trans hf
    refine ab_Ex.blk (k := 1) (pc' := 12) (lv' := [(0, .ref 16), (1, .ref 18), (2, .int x1)]) (st' := [.int 1]) (sh' := ab_SH) (D' := ab_dD h) (fun n => rfl) ?_
    obtain rfl := Option.some.inj hf
    exact ab_Ex.ret (fun n => rfl) rfl
  · replace hf := (if_neg c2).symm.trans hf
    refine ab_Ex.blk (k := 4) (pc' := 19) (lv' := [(0, .ref 16), (1, .ref 18), (2, .int x1)]) (st' := [.int 0]) (sh' := ab_SH) (D' := ab_dD (ab_wI h 18 0 x1)) (fun n => rfl) ?_
    obtain rfl := Option.some.inj hf
    exact ab_Ex.ret (fun n => rfl) rfl
def fX7_leafValue (x0 : Int32) (h : abJ) : Option Int32 := if x0 = (-4) then some (h.1 13 4) else if x0 = (-3) then some (h.1 13 7) else if x0 = (-2) then some (h.1 13 6) else if x0 = (-1) then some (h.1 13 5) else some x0
set_option maxRecDepth 20000 in
theorem sX7_leafValue (d : Nat) (X : abX) (x0 : Int32) (h : abJ) (z : Int32) (hf : fX7_leafValue x0 h = some z) : ab_Ex X (d + 0) 102 0 [(0, .ref 13), (1, .int x0)] [] ab_SH (ab_dD h) (fun r => r = (some (.int z), ab_SH, ab_dD h)) := by
  unfold fX7_leafValue at hf
  refine ab_Ex.blk (k := 1) (pc' := 1) (lv' := [(0, .ref 13), (1, .int x0)]) (st' := [.int x0]) (sh' := ab_SH) (D' := ab_dD h) (fun n => rfl) ?_
  by_cases c1 : x0 = (-4)
  · replace hf := (if_pos c1).symm.trans hf
    refine ab_Ex.blk (k := 1) (pc' := 47) (lv' := [(0, .ref 13), (1, .int x0)]) (st' := []) (sh' := ab_SH) (D' := ab_dD h) (fun n => by rw [c1]; rfl) ?_
    refine ab_Ex.blk (k := 2) (pc' := 51) (lv' := [(0, .ref 13), (1, .int x0)]) (st' := [.int ((h.1 13 4))]) (sh' := ab_SH) (D' := ab_dD h) (fun n => rfl) ?_
    obtain rfl := Option.some.inj hf
    exact ab_Ex.ret (fun n => rfl) rfl
  · replace hf := (if_neg c1).symm.trans hf
    by_cases c2 : x0 = (-3)
    · replace hf := (if_pos c2).symm.trans hf
      refine ab_Ex.blk (k := 1) (pc' := 42) (lv' := [(0, .ref 13), (1, .int x0)]) (st' := []) (sh' := ab_SH) (D' := ab_dD h) (fun n => by rw [c2]; rfl) ?_
      refine ab_Ex.blk (k := 2) (pc' := 46) (lv' := [(0, .ref 13), (1, .int x0)]) (st' := [.int ((h.1 13 7))]) (sh' := ab_SH) (D' := ab_dD h) (fun n => rfl) ?_
      obtain rfl := Option.some.inj hf
      exact ab_Ex.ret (fun n => rfl) rfl
    · replace hf := (if_neg c2).symm.trans hf
      by_cases c3 : x0 = (-2)
      · replace hf := (if_pos c3).symm.trans hf
        refine ab_Ex.blk (k := 1) (pc' := 37) (lv' := [(0, .ref 13), (1, .int x0)]) (st' := []) (sh' := ab_SH) (D' := ab_dD h) (fun n => by rw [c3]; rfl) ?_
        refine ab_Ex.blk (k := 2) (pc' := 41) (lv' := [(0, .ref 13), (1, .int x0)]) (st' := [.int ((h.1 13 6))]) (sh' := ab_SH) (D' := ab_dD h) (fun n => rfl) ?_
        obtain rfl := Option.some.inj hf
        exact ab_Ex.ret (fun n => rfl) rfl
      · replace hf := (if_neg c3).symm.trans hf
        by_cases c4 : x0 = (-1)
        · replace hf := (if_pos c4).symm.trans hf
          refine ab_Ex.blk (k := 1) (pc' := 32) (lv' := [(0, .ref 13), (1, .int x0)]) (st' := []) (sh' := ab_SH) (D' := ab_dD h) (fun n => by rw [c4]; rfl) ?_
          refine ab_Ex.blk (k := 2) (pc' := 36) (lv' := [(0, .ref 13), (1, .int x0)]) (st' := [.int ((h.1 13 5))]) (sh' := ab_SH) (D' := ab_dD h) (fun n => rfl) ?_
          obtain rfl := Option.some.inj hf
          exact ab_Ex.ret (fun n => rfl) rfl
        · replace hf := (if_neg c4).symm.trans hf
          have qc1 := lv_neT c1 (show ((-4) : Int32).toInt = -4 by decide)
          have qc2 := lv_neT c2 (show ((-3) : Int32).toInt = -3 by decide)
          have qc3 := lv_neT c3 (show ((-2) : Int32).toInt = -2 by decide)
          have qc4 := lv_neT c4 (show ((-1) : Int32).toInt = -1 by decide)
          refine ab_Ex.tsw (c := (x0 : Int32).toInt < -4 ∨ -1 < (x0 : Int32).toInt) (S := (52, [(0, .ref 13), (1, .int x0)], [], ab_dD h)) (fun n => rfl) (by omega) ?_
          refine ab_Ex.blk (k := 1) (pc' := 53) (lv' := [(0, .ref 13), (1, .int x0)]) (st' := [.int x0]) (sh' := ab_SH) (D' := ab_dD h) (fun n => rfl) ?_
          obtain rfl := Option.some.inj hf
          exact ab_Ex.ret (fun n => rfl) rfl
def fX7_joined_J111  (h : abJ)  (t0 : Int64) : Option Int32 := if (lg_cmp t0 1000000) ≤ 0 then if 0 ≤ (lg_cmp t0 (-1000000)) then some (t0 : Int64).toInt32 else some (-1000000) else some 1000000
def fX7_joined_J95  (h : abJ)  (t0 : Int64) : Option Int32 := if (lg_cmp t0 1000000) ≤ 0 then if 0 ≤ (lg_cmp t0 (-1000000)) then some (t0 : Int64).toInt32 else some (-1000000) else some 1000000
def fX7_joined_J79  (h : abJ)  (t0 : Int64) : Option Int32 := if (lg_cmp t0 1000000) ≤ 0 then if 0 ≤ (lg_cmp t0 (-1000000)) then some (t0 : Int64).toInt32 else some (-1000000) else some 1000000
def fX7_joined (x0 : Int32) (x1 : Int64) (x2 : Int64) (h : abJ) : Option Int32 := if x0 = (-11) then if (lg_cmp (x1 &&& x2) 1000000) ≤ 0 then if 0 ≤ (lg_cmp (x1 &&& x2) (-1000000)) then some ((x1 &&& x2) : Int64).toInt32 else some (-1000000) else some 1000000 else if x0 = (-10) then if (lg_cmp x1 x2) ≤ 0 then fX7_joined_J111 h 0 else fX7_joined_J111 h 1 else if x0 = (-9) then if 0 ≤ (lg_cmp x1 x2) then fX7_joined_J95 h 0 else fX7_joined_J95 h 1 else if x0 = (-8) then if (lg_cmp x1 x2) = 0 then fX7_joined_J79 h 1 else fX7_joined_J79 h 0 else if x0 = (-7) then if (lg_cmp (x1 * x2) 1000000) ≤ 0 then if 0 ≤ (lg_cmp (x1 * x2) (-1000000)) then some ((x1 * x2) : Int64).toInt32 else some (-1000000) else some 1000000 else if x0 = (-6) then if (lg_cmp (x1 - x2) 1000000) ≤ 0 then if 0 ≤ (lg_cmp (x1 - x2) (-1000000)) then some ((x1 - x2) : Int64).toInt32 else some (-1000000) else some 1000000 else if x0 = (-5) then if (lg_cmp (x1 + x2) 1000000) ≤ 0 then if 0 ≤ (lg_cmp (x1 + x2) (-1000000)) then some ((x1 + x2) : Int64).toInt32 else some (-1000000) else some 1000000 else if (lg_cmp (x1 ||| x2) 1000000) ≤ 0 then if 0 ≤ (lg_cmp (x1 ||| x2) (-1000000)) then some ((x1 ||| x2) : Int64).toInt32 else some (-1000000) else some 1000000
set_option maxRecDepth 20000 in
theorem sX7_joined_J111 (d : Nat) (X : abX) (h : abJ)   : ∀ (t0 : Int64) (z : Int32), fX7_joined_J111 h t0 = some z → ab_Ex X (d + 0) 103 111 [] [.long t0] ab_SH (ab_dD h) (fun r => r = (some (.int z), ab_SH, ab_dD h)) := by
  intro t0 z hf
  unfold fX7_joined_J111 at hf
  refine ab_Ex.blk (k := 5) (pc' := 135) (lv' := [(5, .long t0)]) (st' := [.int ((lg_cmp t0 1000000))]) (sh' := ab_SH) (D' := ab_dD h) (fun n => rfl) ?_
  refine ab_Ex.ifc (c := (lg_cmp t0 1000000) ≤ 0) (SA := (143, [(5, .long t0)], [], ab_dD h)) (SB := (138, [(5, .long t0)], [], ab_dD h)) (fun n => rfl) (fun c6 => ?_) (fun c6 => ?_)
  · replace hf := (if_pos c6).symm.trans hf
    refine ab_Ex.blk (k := 3) (pc' := 149) (lv' := [(5, .long t0)]) (st' := [.int ((lg_cmp t0 (-1000000)))]) (sh' := ab_SH) (D' := ab_dD h) (fun n => rfl) ?_
    refine ab_Ex.ifc (c := 0 ≤ (lg_cmp t0 (-1000000))) (SA := (157, [(5, .long t0)], [], ab_dD h)) (SB := (152, [(5, .long t0)], [], ab_dD h)) (fun n => rfl) (fun c7 => ?_) (fun c7 => ?_)
    · replace hf := (if_pos c7).symm.trans hf
      refine ab_Ex.blk (k := 2) (pc' := 160) (lv' := []) (st' := [.int ((t0 : Int64).toInt32)]) (sh' := ab_SH) (D' := ab_dD h) (fun n => rfl) ?_
      obtain rfl := Option.some.inj hf
      exact ab_Ex.ret (fun n => rfl) rfl
    · replace hf := (if_neg c7).symm.trans hf
      refine ab_Ex.blk (k := 2) (pc' := 160) (lv' := []) (st' := [.int ((-1000000))]) (sh' := ab_SH) (D' := ab_dD h) (fun n => rfl) ?_
      obtain rfl := Option.some.inj hf
      exact ab_Ex.ret (fun n => rfl) rfl
  · replace hf := (if_neg c6).symm.trans hf
    refine ab_Ex.blk (k := 2) (pc' := 160) (lv' := []) (st' := [.int 1000000]) (sh' := ab_SH) (D' := ab_dD h) (fun n => rfl) ?_
    obtain rfl := Option.some.inj hf
    exact ab_Ex.ret (fun n => rfl) rfl
set_option maxRecDepth 20000 in
theorem sX7_joined_J95 (d : Nat) (X : abX) (h : abJ)   : ∀ (t0 : Int64) (z : Int32), fX7_joined_J95 h t0 = some z → ab_Ex X (d + 0) 103 95 [] [.long t0] ab_SH (ab_dD h) (fun r => r = (some (.int z), ab_SH, ab_dD h)) := by
  intro t0 z hf
  unfold fX7_joined_J95 at hf
  refine ab_Ex.blk (k := 5) (pc' := 135) (lv' := [(5, .long t0)]) (st' := [.int ((lg_cmp t0 1000000))]) (sh' := ab_SH) (D' := ab_dD h) (fun n => rfl) ?_
  refine ab_Ex.ifc (c := (lg_cmp t0 1000000) ≤ 0) (SA := (143, [(5, .long t0)], [], ab_dD h)) (SB := (138, [(5, .long t0)], [], ab_dD h)) (fun n => rfl) (fun c10 => ?_) (fun c10 => ?_)
  · replace hf := (if_pos c10).symm.trans hf
    refine ab_Ex.blk (k := 3) (pc' := 149) (lv' := [(5, .long t0)]) (st' := [.int ((lg_cmp t0 (-1000000)))]) (sh' := ab_SH) (D' := ab_dD h) (fun n => rfl) ?_
    refine ab_Ex.ifc (c := 0 ≤ (lg_cmp t0 (-1000000))) (SA := (157, [(5, .long t0)], [], ab_dD h)) (SB := (152, [(5, .long t0)], [], ab_dD h)) (fun n => rfl) (fun c11 => ?_) (fun c11 => ?_)
    · replace hf := (if_pos c11).symm.trans hf
      refine ab_Ex.blk (k := 2) (pc' := 160) (lv' := []) (st' := [.int ((t0 : Int64).toInt32)]) (sh' := ab_SH) (D' := ab_dD h) (fun n => rfl) ?_
      obtain rfl := Option.some.inj hf
      exact ab_Ex.ret (fun n => rfl) rfl
    · replace hf := (if_neg c11).symm.trans hf
      refine ab_Ex.blk (k := 2) (pc' := 160) (lv' := []) (st' := [.int ((-1000000))]) (sh' := ab_SH) (D' := ab_dD h) (fun n => rfl) ?_
      obtain rfl := Option.some.inj hf
      exact ab_Ex.ret (fun n => rfl) rfl
  · replace hf := (if_neg c10).symm.trans hf
    refine ab_Ex.blk (k := 2) (pc' := 160) (lv' := []) (st' := [.int 1000000]) (sh' := ab_SH) (D' := ab_dD h) (fun n => rfl) ?_
    obtain rfl := Option.some.inj hf
    exact ab_Ex.ret (fun n => rfl) rfl
set_option maxRecDepth 20000 in
theorem sX7_joined_J79 (d : Nat) (X : abX) (h : abJ)   : ∀ (t0 : Int64) (z : Int32), fX7_joined_J79 h t0 = some z → ab_Ex X (d + 0) 103 79 [] [.long t0] ab_SH (ab_dD h) (fun r => r = (some (.int z), ab_SH, ab_dD h)) := by
  intro t0 z hf
  unfold fX7_joined_J79 at hf
  refine ab_Ex.blk (k := 5) (pc' := 135) (lv' := [(5, .long t0)]) (st' := [.int ((lg_cmp t0 1000000))]) (sh' := ab_SH) (D' := ab_dD h) (fun n => rfl) ?_
  refine ab_Ex.ifc (c := (lg_cmp t0 1000000) ≤ 0) (SA := (143, [(5, .long t0)], [], ab_dD h)) (SB := (138, [(5, .long t0)], [], ab_dD h)) (fun n => rfl) (fun c14 => ?_) (fun c14 => ?_)
  · replace hf := (if_pos c14).symm.trans hf
    refine ab_Ex.blk (k := 3) (pc' := 149) (lv' := [(5, .long t0)]) (st' := [.int ((lg_cmp t0 (-1000000)))]) (sh' := ab_SH) (D' := ab_dD h) (fun n => rfl) ?_
    refine ab_Ex.ifc (c := 0 ≤ (lg_cmp t0 (-1000000))) (SA := (157, [(5, .long t0)], [], ab_dD h)) (SB := (152, [(5, .long t0)], [], ab_dD h)) (fun n => rfl) (fun c15 => ?_) (fun c15 => ?_)
    · replace hf := (if_pos c15).symm.trans hf
      refine ab_Ex.blk (k := 2) (pc' := 160) (lv' := []) (st' := [.int ((t0 : Int64).toInt32)]) (sh' := ab_SH) (D' := ab_dD h) (fun n => rfl) ?_
      obtain rfl := Option.some.inj hf
      exact ab_Ex.ret (fun n => rfl) rfl
    · replace hf := (if_neg c15).symm.trans hf
      refine ab_Ex.blk (k := 2) (pc' := 160) (lv' := []) (st' := [.int ((-1000000))]) (sh' := ab_SH) (D' := ab_dD h) (fun n => rfl) ?_
      obtain rfl := Option.some.inj hf
      exact ab_Ex.ret (fun n => rfl) rfl
  · replace hf := (if_neg c14).symm.trans hf
    refine ab_Ex.blk (k := 2) (pc' := 160) (lv' := []) (st' := [.int 1000000]) (sh' := ab_SH) (D' := ab_dD h) (fun n => rfl) ?_
    obtain rfl := Option.some.inj hf
    exact ab_Ex.ret (fun n => rfl) rfl
set_option maxRecDepth 20000 in
theorem sX7_joined (d : Nat) (X : abX) (x0 : Int32) (x1 : Int64) (x2 : Int64) (h : abJ) (z : Int32) (hf : fX7_joined x0 x1 x2 h = some z) : ab_Ex X (d + 0) 103 0 [(0, .int x0), (1, .long x1), (3, .long x2)] [] ab_SH (ab_dD h) (fun r => r = (some (.int z), ab_SH, ab_dD h)) := by
  unfold fX7_joined at hf
  refine ab_Ex.blk (k := 1) (pc' := 1) (lv' := [(0, .int x0), (1, .long x1), (3, .long x2)]) (st' := [.int x0]) (sh' := ab_SH) (D' := ab_dD h) (fun n => rfl) ?_
  by_cases c1 : x0 = (-11)
  · replace hf := (if_pos c1).symm.trans hf
    refine ab_Ex.blk (k := 1) (pc' := 116) (lv' := [(0, .int x0), (1, .long x1), (3, .long x2)]) (st' := []) (sh' := ab_SH) (D' := ab_dD h) (fun n => by rw [c1]; rfl) ?_
    refine ab_Ex.blk (k := 8) (pc' := 135) (lv' := [(5, .long ((x1 &&& x2)))]) (st' := [.int ((lg_cmp (x1 &&& x2) 1000000))]) (sh' := ab_SH) (D' := ab_dD h) (fun n => rfl) ?_
    refine ab_Ex.ifc (c := (lg_cmp (x1 &&& x2) 1000000) ≤ 0) (SA := (143, [(5, .long ((x1 &&& x2)))], [], ab_dD h)) (SB := (138, [(5, .long ((x1 &&& x2)))], [], ab_dD h)) (fun n => rfl) (fun c2 => ?_) (fun c2 => ?_)
    · replace hf := (if_pos c2).symm.trans hf
      refine ab_Ex.blk (k := 3) (pc' := 149) (lv' := [(5, .long ((x1 &&& x2)))]) (st' := [.int ((lg_cmp (x1 &&& x2) (-1000000)))]) (sh' := ab_SH) (D' := ab_dD h) (fun n => rfl) ?_
      refine ab_Ex.ifc (c := 0 ≤ (lg_cmp (x1 &&& x2) (-1000000))) (SA := (157, [(5, .long ((x1 &&& x2)))], [], ab_dD h)) (SB := (152, [(5, .long ((x1 &&& x2)))], [], ab_dD h)) (fun n => rfl) (fun c3 => ?_) (fun c3 => ?_)
      · replace hf := (if_pos c3).symm.trans hf
        refine ab_Ex.blk (k := 2) (pc' := 160) (lv' := []) (st' := [.int (((x1 &&& x2) : Int64).toInt32)]) (sh' := ab_SH) (D' := ab_dD h) (fun n => rfl) ?_
        obtain rfl := Option.some.inj hf
        exact ab_Ex.ret (fun n => rfl) rfl
      · replace hf := (if_neg c3).symm.trans hf
        refine ab_Ex.blk (k := 2) (pc' := 160) (lv' := []) (st' := [.int ((-1000000))]) (sh' := ab_SH) (D' := ab_dD h) (fun n => rfl) ?_
        obtain rfl := Option.some.inj hf
        exact ab_Ex.ret (fun n => rfl) rfl
    · replace hf := (if_neg c2).symm.trans hf
      refine ab_Ex.blk (k := 2) (pc' := 160) (lv' := []) (st' := [.int 1000000]) (sh' := ab_SH) (D' := ab_dD h) (fun n => rfl) ?_
      obtain rfl := Option.some.inj hf
      exact ab_Ex.ret (fun n => rfl) rfl
  · replace hf := (if_neg c1).symm.trans hf
    by_cases c4 : x0 = (-10)
    · replace hf := (if_pos c4).symm.trans hf
      refine ab_Ex.blk (k := 1) (pc' := 100) (lv' := [(0, .int x0), (1, .long x1), (3, .long x2)]) (st' := []) (sh' := ab_SH) (D' := ab_dD h) (fun n => by rw [c4]; rfl) ?_
      refine ab_Ex.blk (k := 3) (pc' := 103) (lv' := [(0, .int x0), (1, .long x1), (3, .long x2)]) (st' := [.int ((lg_cmp x1 x2))]) (sh' := ab_SH) (D' := ab_dD h) (fun n => rfl) ?_
      refine ab_Ex.ifc (c := (lg_cmp x1 x2) ≤ 0) (SA := (110, [(0, .int x0), (1, .long x1), (3, .long x2)], [], ab_dD h)) (SB := (106, [(0, .int x0), (1, .long x1), (3, .long x2)], [], ab_dD h)) (fun n => rfl) (fun c5 => ?_) (fun c5 => ?_)
      · replace hf := (if_pos c5).symm.trans hf
        refine ab_Ex.blk (k := 1) (pc' := 111) (lv' := []) (st' := [.long 0]) (sh' := ab_SH) (D' := ab_dD h) (fun n => rfl) ?_
        exact sX7_joined_J111 d X h 0 _ hf
      · replace hf := (if_neg c5).symm.trans hf
        refine ab_Ex.blk (k := 2) (pc' := 111) (lv' := []) (st' := [.long 1]) (sh' := ab_SH) (D' := ab_dD h) (fun n => rfl) ?_
        exact sX7_joined_J111 d X h 1 _ hf
    · replace hf := (if_neg c4).symm.trans hf
      by_cases c8 : x0 = (-9)
      · replace hf := (if_pos c8).symm.trans hf
        refine ab_Ex.blk (k := 1) (pc' := 84) (lv' := [(0, .int x0), (1, .long x1), (3, .long x2)]) (st' := []) (sh' := ab_SH) (D' := ab_dD h) (fun n => by rw [c8]; rfl) ?_
        refine ab_Ex.blk (k := 3) (pc' := 87) (lv' := [(0, .int x0), (1, .long x1), (3, .long x2)]) (st' := [.int ((lg_cmp x1 x2))]) (sh' := ab_SH) (D' := ab_dD h) (fun n => rfl) ?_
        refine ab_Ex.ifc (c := 0 ≤ (lg_cmp x1 x2)) (SA := (94, [(0, .int x0), (1, .long x1), (3, .long x2)], [], ab_dD h)) (SB := (90, [(0, .int x0), (1, .long x1), (3, .long x2)], [], ab_dD h)) (fun n => rfl) (fun c9 => ?_) (fun c9 => ?_)
        · replace hf := (if_pos c9).symm.trans hf
          refine ab_Ex.blk (k := 1) (pc' := 95) (lv' := []) (st' := [.long 0]) (sh' := ab_SH) (D' := ab_dD h) (fun n => rfl) ?_
          exact sX7_joined_J95 d X h 0 _ hf
        · replace hf := (if_neg c9).symm.trans hf
          refine ab_Ex.blk (k := 2) (pc' := 95) (lv' := []) (st' := [.long 1]) (sh' := ab_SH) (D' := ab_dD h) (fun n => rfl) ?_
          exact sX7_joined_J95 d X h 1 _ hf
      · replace hf := (if_neg c8).symm.trans hf
        by_cases c12 : x0 = (-8)
        · replace hf := (if_pos c12).symm.trans hf
          refine ab_Ex.blk (k := 1) (pc' := 68) (lv' := [(0, .int x0), (1, .long x1), (3, .long x2)]) (st' := []) (sh' := ab_SH) (D' := ab_dD h) (fun n => by rw [c12]; rfl) ?_
          refine ab_Ex.blk (k := 3) (pc' := 71) (lv' := [(0, .int x0), (1, .long x1), (3, .long x2)]) (st' := [.int ((lg_cmp x1 x2))]) (sh' := ab_SH) (D' := ab_dD h) (fun n => rfl) ?_
          refine ab_Ex.ifc (c := (lg_cmp x1 x2) = 0) (SA := (74, [(0, .int x0), (1, .long x1), (3, .long x2)], [], ab_dD h)) (SB := (78, [(0, .int x0), (1, .long x1), (3, .long x2)], [], ab_dD h)) (fun n => rfl) (fun c13 => ?_) (fun c13 => ?_)
          · replace hf := (if_pos c13).symm.trans hf
            refine ab_Ex.blk (k := 2) (pc' := 79) (lv' := []) (st' := [.long 1]) (sh' := ab_SH) (D' := ab_dD h) (fun n => rfl) ?_
            exact sX7_joined_J79 d X h 1 _ hf
          · replace hf := (if_neg c13).symm.trans hf
            refine ab_Ex.blk (k := 1) (pc' := 79) (lv' := []) (st' := [.long 0]) (sh' := ab_SH) (D' := ab_dD h) (fun n => rfl) ?_
            exact sX7_joined_J79 d X h 0 _ hf
        · replace hf := (if_neg c12).symm.trans hf
          by_cases c16 : x0 = (-7)
          · replace hf := (if_pos c16).symm.trans hf
            refine ab_Ex.blk (k := 1) (pc' := 60) (lv' := [(0, .int x0), (1, .long x1), (3, .long x2)]) (st' := []) (sh' := ab_SH) (D' := ab_dD h) (fun n => by rw [c16]; rfl) ?_
            refine ab_Ex.blk (k := 8) (pc' := 135) (lv' := [(5, .long ((x1 * x2)))]) (st' := [.int ((lg_cmp (x1 * x2) 1000000))]) (sh' := ab_SH) (D' := ab_dD h) (fun n => rfl) ?_
            refine ab_Ex.ifc (c := (lg_cmp (x1 * x2) 1000000) ≤ 0) (SA := (143, [(5, .long ((x1 * x2)))], [], ab_dD h)) (SB := (138, [(5, .long ((x1 * x2)))], [], ab_dD h)) (fun n => rfl) (fun c17 => ?_) (fun c17 => ?_)
            · replace hf := (if_pos c17).symm.trans hf
              refine ab_Ex.blk (k := 3) (pc' := 149) (lv' := [(5, .long ((x1 * x2)))]) (st' := [.int ((lg_cmp (x1 * x2) (-1000000)))]) (sh' := ab_SH) (D' := ab_dD h) (fun n => rfl) ?_
              refine ab_Ex.ifc (c := 0 ≤ (lg_cmp (x1 * x2) (-1000000))) (SA := (157, [(5, .long ((x1 * x2)))], [], ab_dD h)) (SB := (152, [(5, .long ((x1 * x2)))], [], ab_dD h)) (fun n => rfl) (fun c18 => ?_) (fun c18 => ?_)
              · replace hf := (if_pos c18).symm.trans hf
                refine ab_Ex.blk (k := 2) (pc' := 160) (lv' := []) (st' := [.int (((x1 * x2) : Int64).toInt32)]) (sh' := ab_SH) (D' := ab_dD h) (fun n => rfl) ?_
                obtain rfl := Option.some.inj hf
                exact ab_Ex.ret (fun n => rfl) rfl
              · replace hf := (if_neg c18).symm.trans hf
                refine ab_Ex.blk (k := 2) (pc' := 160) (lv' := []) (st' := [.int ((-1000000))]) (sh' := ab_SH) (D' := ab_dD h) (fun n => rfl) ?_
                obtain rfl := Option.some.inj hf
                exact ab_Ex.ret (fun n => rfl) rfl
            · replace hf := (if_neg c17).symm.trans hf
              refine ab_Ex.blk (k := 2) (pc' := 160) (lv' := []) (st' := [.int 1000000]) (sh' := ab_SH) (D' := ab_dD h) (fun n => rfl) ?_
              obtain rfl := Option.some.inj hf
              exact ab_Ex.ret (fun n => rfl) rfl
          · replace hf := (if_neg c16).symm.trans hf
            by_cases c19 : x0 = (-6)
            · replace hf := (if_pos c19).symm.trans hf
              refine ab_Ex.blk (k := 1) (pc' := 52) (lv' := [(0, .int x0), (1, .long x1), (3, .long x2)]) (st' := []) (sh' := ab_SH) (D' := ab_dD h) (fun n => by rw [c19]; rfl) ?_
              refine ab_Ex.blk (k := 8) (pc' := 135) (lv' := [(5, .long ((x1 - x2)))]) (st' := [.int ((lg_cmp (x1 - x2) 1000000))]) (sh' := ab_SH) (D' := ab_dD h) (fun n => rfl) ?_
              refine ab_Ex.ifc (c := (lg_cmp (x1 - x2) 1000000) ≤ 0) (SA := (143, [(5, .long ((x1 - x2)))], [], ab_dD h)) (SB := (138, [(5, .long ((x1 - x2)))], [], ab_dD h)) (fun n => rfl) (fun c20 => ?_) (fun c20 => ?_)
              · replace hf := (if_pos c20).symm.trans hf
                refine ab_Ex.blk (k := 3) (pc' := 149) (lv' := [(5, .long ((x1 - x2)))]) (st' := [.int ((lg_cmp (x1 - x2) (-1000000)))]) (sh' := ab_SH) (D' := ab_dD h) (fun n => rfl) ?_
                refine ab_Ex.ifc (c := 0 ≤ (lg_cmp (x1 - x2) (-1000000))) (SA := (157, [(5, .long ((x1 - x2)))], [], ab_dD h)) (SB := (152, [(5, .long ((x1 - x2)))], [], ab_dD h)) (fun n => rfl) (fun c21 => ?_) (fun c21 => ?_)
                · replace hf := (if_pos c21).symm.trans hf
                  refine ab_Ex.blk (k := 2) (pc' := 160) (lv' := []) (st' := [.int (((x1 - x2) : Int64).toInt32)]) (sh' := ab_SH) (D' := ab_dD h) (fun n => rfl) ?_
                  obtain rfl := Option.some.inj hf
                  exact ab_Ex.ret (fun n => rfl) rfl
                · replace hf := (if_neg c21).symm.trans hf
                  refine ab_Ex.blk (k := 2) (pc' := 160) (lv' := []) (st' := [.int ((-1000000))]) (sh' := ab_SH) (D' := ab_dD h) (fun n => rfl) ?_
                  obtain rfl := Option.some.inj hf
                  exact ab_Ex.ret (fun n => rfl) rfl
              · replace hf := (if_neg c20).symm.trans hf
                refine ab_Ex.blk (k := 2) (pc' := 160) (lv' := []) (st' := [.int 1000000]) (sh' := ab_SH) (D' := ab_dD h) (fun n => rfl) ?_
                obtain rfl := Option.some.inj hf
                exact ab_Ex.ret (fun n => rfl) rfl
            · replace hf := (if_neg c19).symm.trans hf
              by_cases c22 : x0 = (-5)
              · replace hf := (if_pos c22).symm.trans hf
                refine ab_Ex.blk (k := 1) (pc' := 44) (lv' := [(0, .int x0), (1, .long x1), (3, .long x2)]) (st' := []) (sh' := ab_SH) (D' := ab_dD h) (fun n => by rw [c22]; rfl) ?_
                refine ab_Ex.blk (k := 8) (pc' := 135) (lv' := [(5, .long ((x1 + x2)))]) (st' := [.int ((lg_cmp (x1 + x2) 1000000))]) (sh' := ab_SH) (D' := ab_dD h) (fun n => rfl) ?_
                refine ab_Ex.ifc (c := (lg_cmp (x1 + x2) 1000000) ≤ 0) (SA := (143, [(5, .long ((x1 + x2)))], [], ab_dD h)) (SB := (138, [(5, .long ((x1 + x2)))], [], ab_dD h)) (fun n => rfl) (fun c23 => ?_) (fun c23 => ?_)
                · replace hf := (if_pos c23).symm.trans hf
                  refine ab_Ex.blk (k := 3) (pc' := 149) (lv' := [(5, .long ((x1 + x2)))]) (st' := [.int ((lg_cmp (x1 + x2) (-1000000)))]) (sh' := ab_SH) (D' := ab_dD h) (fun n => rfl) ?_
                  refine ab_Ex.ifc (c := 0 ≤ (lg_cmp (x1 + x2) (-1000000))) (SA := (157, [(5, .long ((x1 + x2)))], [], ab_dD h)) (SB := (152, [(5, .long ((x1 + x2)))], [], ab_dD h)) (fun n => rfl) (fun c24 => ?_) (fun c24 => ?_)
                  · replace hf := (if_pos c24).symm.trans hf
                    refine ab_Ex.blk (k := 2) (pc' := 160) (lv' := []) (st' := [.int (((x1 + x2) : Int64).toInt32)]) (sh' := ab_SH) (D' := ab_dD h) (fun n => rfl) ?_
                    obtain rfl := Option.some.inj hf
                    exact ab_Ex.ret (fun n => rfl) rfl
                  · replace hf := (if_neg c24).symm.trans hf
                    refine ab_Ex.blk (k := 2) (pc' := 160) (lv' := []) (st' := [.int ((-1000000))]) (sh' := ab_SH) (D' := ab_dD h) (fun n => rfl) ?_
                    obtain rfl := Option.some.inj hf
                    exact ab_Ex.ret (fun n => rfl) rfl
                · replace hf := (if_neg c23).symm.trans hf
                  refine ab_Ex.blk (k := 2) (pc' := 160) (lv' := []) (st' := [.int 1000000]) (sh' := ab_SH) (D' := ab_dD h) (fun n => rfl) ?_
                  obtain rfl := Option.some.inj hf
                  exact ab_Ex.ret (fun n => rfl) rfl
              · replace hf := (if_neg c22).symm.trans hf
                have qc1 := lv_neT c1 (show ((-11) : Int32).toInt = -11 by decide)
                have qc4 := lv_neT c4 (show ((-10) : Int32).toInt = -10 by decide)
                have qc8 := lv_neT c8 (show ((-9) : Int32).toInt = -9 by decide)
                have qc12 := lv_neT c12 (show ((-8) : Int32).toInt = -8 by decide)
                have qc16 := lv_neT c16 (show ((-7) : Int32).toInt = -7 by decide)
                have qc19 := lv_neT c19 (show ((-6) : Int32).toInt = -6 by decide)
                have qc22 := lv_neT c22 (show ((-5) : Int32).toInt = -5 by decide)
                refine ab_Ex.tsw (c := (x0 : Int32).toInt < -11 ∨ -5 < (x0 : Int32).toInt) (S := (124, [(0, .int x0), (1, .long x1), (3, .long x2)], [], ab_dD h)) (fun n => rfl) (by omega) ?_
                refine ab_Ex.blk (k := 7) (pc' := 135) (lv' := [(5, .long ((x1 ||| x2)))]) (st' := [.int ((lg_cmp (x1 ||| x2) 1000000))]) (sh' := ab_SH) (D' := ab_dD h) (fun n => rfl) ?_
                refine ab_Ex.ifc (c := (lg_cmp (x1 ||| x2) 1000000) ≤ 0) (SA := (143, [(5, .long ((x1 ||| x2)))], [], ab_dD h)) (SB := (138, [(5, .long ((x1 ||| x2)))], [], ab_dD h)) (fun n => rfl) (fun c25 => ?_) (fun c25 => ?_)
                · replace hf := (if_pos c25).symm.trans hf
                  refine ab_Ex.blk (k := 3) (pc' := 149) (lv' := [(5, .long ((x1 ||| x2)))]) (st' := [.int ((lg_cmp (x1 ||| x2) (-1000000)))]) (sh' := ab_SH) (D' := ab_dD h) (fun n => rfl) ?_
                  refine ab_Ex.ifc (c := 0 ≤ (lg_cmp (x1 ||| x2) (-1000000))) (SA := (157, [(5, .long ((x1 ||| x2)))], [], ab_dD h)) (SB := (152, [(5, .long ((x1 ||| x2)))], [], ab_dD h)) (fun n => rfl) (fun c26 => ?_) (fun c26 => ?_)
                  · replace hf := (if_pos c26).symm.trans hf
                    refine ab_Ex.blk (k := 2) (pc' := 160) (lv' := []) (st' := [.int (((x1 ||| x2) : Int64).toInt32)]) (sh' := ab_SH) (D' := ab_dD h) (fun n => rfl) ?_
                    obtain rfl := Option.some.inj hf
                    exact ab_Ex.ret (fun n => rfl) rfl
                  · replace hf := (if_neg c26).symm.trans hf
                    refine ab_Ex.blk (k := 2) (pc' := 160) (lv' := []) (st' := [.int ((-1000000))]) (sh' := ab_SH) (D' := ab_dD h) (fun n => rfl) ?_
                    obtain rfl := Option.some.inj hf
                    exact ab_Ex.ret (fun n => rfl) rfl
                · replace hf := (if_neg c25).symm.trans hf
                  refine ab_Ex.blk (k := 2) (pc' := 160) (lv' := []) (st' := [.int 1000000]) (sh' := ab_SH) (D' := ab_dD h) (fun n => rfl) ?_
                  obtain rfl := Option.some.inj hf
                  exact ab_Ex.ret (fun n => rfl) rfl
