/-! combine, map -/
section OPS3
variable {sc : Scr} {d : Nat} {W : AW} {X h : PH} {u : Nat} {S0 : SH} {Q : Out → PH → Prop}
/-- generators that were cut can be finished -/
def okFG (s : LE) : Prop := okS s ∧ (rcV 1 (stG s).2 < (stG s).2.length → smB (stG s) = true → okR (e3, []) (rowsC (stG s).1 (stG s).2) ∧ okS (cutA (e3, []) (rowsC (stG s).1 (stG s).2)))
def cmS (A B : SH) (k : Nat) : LE := match k with
  | 0 => cbc (cbc pl0 A) B
  | 1 => cutA (cutA (e3, []) (rowsC A.2.1 A.2.2)) (rowsC B.2.1 B.2.2)
  | _ => cutA (e3, []) (smR A B)
def cmF (A B : SH) (k : Nat) : Nat ⊕ SH := match k with
  | 0 => finG (cmS A B 0)
  | k + 1 => finK (cmS A B (k + 1))
def okCmb (A B : SH) (k : Nat) : Prop := match k with
  | 0 => okR (if A.2.2 = [] then ([], []) else pl0) (rowsC A.1.1 A.1.2) ∧ okR (if B.2.2 = [] then ([], []) else cbc pl0 A) (rowsC B.1.1 B.1.2) ∧ okFG (cmS A B 0)
  | 1 => okR (e3, []) (rowsC A.2.1 A.2.2) ∧ okR (cutA (e3, []) (rowsC A.2.1 A.2.2)) (rowsC B.2.1 B.2.2) ∧ okFK (cmS A B 1)
  | _ => okR (e3, []) (smR A B) ∧ okFK (cmS A B 2)
theorem s_combine (hr : RepS W X h) {x y z k : Int32} (hu : W.2.2.2.2.1 = u) (hu5 : u < 5) (ht : ∀ i, i < 4 → W.2.2.2.1 i < 5 ∧ u ≠ W.2.2.2.1 i) (hb : ∀ i, i < 4 → bdL (gS W (W.2.2.2.1 i)).2.2)
    (hok : ∀ i j q, i < 4 → j < 4 → q < 3 → okCmb (gS W (W.2.2.2.1 i)) (gS W (W.2.2.2.1 j)) q)
    (h0 : slB x ∨ slB y ∨ slB z → Q (.inr 0) h) (h1 : ¬ (slB x ∨ slB y ∨ slB z) → k.toInt < 0 ∨ 2 < k.toInt → Q (.inr 1) h)
    (h2 : ∀ i j q (o : Nat), i < 4 → j < 4 → q < 4 → o < 3 → x = nI i → y = nI j → z = nI q → k.toInt = (o : Int) → ∀ e S h, cmF (gS W (W.2.2.2.1 i)) (gS W (W.2.2.2.1 j)) o = .inl e → RepS (sS W u S) X h → Q (.inr e) h)
    (h3 : ∀ i j q (o : Nat), i < 4 → j < 4 → q < 4 → o < 3 → x = nI i → y = nI j → z = nI q → k.toInt = (o : Int) → ∀ S h, cmF (gS W (W.2.2.2.1 i)) (gS W (W.2.2.2.1 j)) o = .inr S → RepS (keepW W q W.2.1 S) X h → Q (.inl (some (.int (degS S)))) h) : wpC sc (d + 8) 47 [.ref 0, .int k, .int x, .int y, .int z] h Q := by
  rw [← sS_id W u] at hr
  by_cases hx : slB x
  · refine enter rfl rfl (fun call hc => go hc 14 (fun K hK => ?_))
    conv => whnf
    refine ⟨_, hr.Du hu, Nat.le_of_ble_eq_true rfl, ?_⟩
    conv => whnf
    refine callee hc (s_shapeBad hr hx ?_)
    conv => whnf
    exact ⟨rfl, rfl, h0 (Or.inl hx)⟩
  obtain ⟨i, hi, rfl⟩ := (slot_cases x).resolve_left hx
  by_cases hy : slB y
  · refine enter rfl rfl (fun call hc => go hc 14 (fun K hK => ?_))
    conv => whnf
    refine ⟨_, hr.Du hu, Nat.le_of_ble_eq_true rfl, ?_⟩
    conv => whnf
    refine callee hc (s_shapeAt hr hi ?_)
    conv => whnf
    refine ⟨_, hr.Du hu, Nat.le_of_ble_eq_true rfl, ?_⟩
    conv => whnf
    refine callee hc (s_shapeBad hr hy ?_)
    conv => whnf
    exact ⟨rfl, rfl, h0 (Or.inr (Or.inl hy))⟩
  obtain ⟨j, hj, rfl⟩ := (slot_cases y).resolve_left hy
  by_cases hz : slB z
  · refine enter rfl rfl (fun call hc => go hc 14 (fun K hK => ?_))
    conv => whnf
    refine ⟨_, hr.Du hu, Nat.le_of_ble_eq_true rfl, ?_⟩
    conv => whnf
    refine callee hc (s_shapeAt hr hi ?_)
    conv => whnf
    refine ⟨_, hr.Du hu, Nat.le_of_ble_eq_true rfl, ?_⟩
    conv => whnf
    refine callee hc (s_shapeAt hr hj ?_)
    conv => whnf
    refine ⟨_, hr.Du hu, Nat.le_of_ble_eq_true rfl, ?_⟩
    conv => whnf
    refine callee hc (s_shapeBad hr hz ?_)
    conv => whnf
    exact ⟨rfl, rfl, h0 (Or.inr (Or.inr hz))⟩
  obtain ⟨q, hq, rfl⟩ := (slot_cases z).resolve_left hz
  obtain ⟨hti, hni⟩ := ht i hi
  obtain ⟨htj, hnj⟩ := ht j hj
  have g2 := fun o ho => h2 i j q o hi hj hq ho rfl rfl rfl
  have g3 := fun o ho => h3 i j q o hi hj hq ho rfl rfl rfl
  have ok0 := hok i j 0 hi hj (by omega)
  have ok1 := hok i j 1 hi hj (by omega)
  have ok2 := hok i j 2 hi hj (by omega)
  have bi := hb i hi
  have bj := hb j hj
  generalize hT1 : W.2.2.2.1 i = t1 at *
  generalize hT2 : W.2.2.2.1 j = t2 at *
  refine enter rfl rfl (fun call hc => go hc 14 (fun K hK => ?_))
  conv => whnf
  refine ⟨_, hr.Du hu, Nat.le_of_ble_eq_true rfl, ?_⟩
  conv => whnf
  refine callee hc (s_shapeAt hr hi ?_)
  rw [show (sS W u (gS W u)).2.2.2.1 i = t1 from hT1]
  conv => whnf
  refine ⟨_, hr.Du hu, Nat.le_of_ble_eq_true rfl, ?_⟩
  conv => whnf
  refine callee hc (s_shapeAt hr hj ?_)
  rw [show (sS W u (gS W u)).2.2.2.1 j = t2 from hT2]
  conv => whnf
  refine ⟨_, hr.Du hu, Nat.le_of_ble_eq_true rfl, ?_⟩
  conv => whnf
  refine callee hc (s_shapeAt hr hq ?_)
  conv => whnf
  have hend : ∀ (o : Nat) S h, o < 3 → k.toInt = (o : Int) → cmF (gS W t1) (gS W t2) o = .inr S → RepS (sS W u S) X h → Runs (d + 7) call sc m_X3_combine (qth (mTh m_X3_combine) Q) 171 [(0, .ref 0), (1, .int k), (2, .int (nI i)), (3, .int (nI j)), (4, .int (nI q)), (5, .ref (sid t1)), (6, .ref (sid t2))] [] h 8 48 := fun o S h ho hk hf hr => by
    refine go hc 4 (fun K hK => ?_)
    conv => whnf
    refine ⟨_, hr.Du hu, Nat.le_of_ble_eq_true rfl, ?_⟩
    conv => whnf
    refine callee hc (s_keepS hr hu hu5 hq ?_)
    intro h hr
    conv => whnf
    exact g3 o ho hk S h hf hr
  refine ⟨fun c_ => ?_, fun c_ => ?_, fun c_ => ?_, fun c_ => ?_, True.intro⟩
  · conv => whnf
    refine hK _ _ _ _ _ _ (go hc 1 (fun K hK => ?_))
    conv => whnf
    exact ⟨by omega, Nat.le_of_ble_eq_true rfl, rfl, rfl, h1 (fun q => q.elim hx (fun q => q.elim hy hz)) c_⟩
  · cases hf : finG (cmS (gS W t1) (gS W t2) 0) with
    | inl e =>
      conv => whnf
      refine hK _ _ _ _ _ _ (go hc 17 (fun K hK => ?_))
      conv => whnf
      refine ⟨_, _, hr.Du hu, rfl, ?_⟩
      conv => whnf
      refine ⟨_, _, hr.S _ (by omega), rfl, ?_⟩
      conv => whnf
      refine ⟨_, hr.C _ (by omega), Nat.le_of_ble_eq_true rfl, ?_⟩
      conv => whnf
      refine callee hc (s_plG hr hu5 ?_)
      intro h hr
      conv => whnf
      refine ⟨_, _, hr.Du hu, rfl, ?_⟩
      conv => whnf
      refine ⟨_, _, hr.S _ (by omega), rfl, ?_⟩
      conv => whnf
      refine ⟨_, hr.C _ (by omega), Nat.le_of_ble_eq_true rfl, ?_⟩
      conv => whnf
      refine callee hc (s_cbc hr hu5 hti hni ok0.1 ?_)
      intro h hr
      conv => whnf
      refine ⟨_, _, hr.Du hu, rfl, ?_⟩
      conv => whnf
      refine ⟨_, _, hr.S _ (by omega), rfl, ?_⟩
      conv => whnf
      refine ⟨_, hr.C _ (by omega), Nat.le_of_ble_eq_true rfl, ?_⟩
      conv => whnf
      refine callee hc (s_cbc hr hu5 htj hnj ok0.2.1 ?_)
      intro h hr
      conv => whnf
      refine ⟨_, hr.Du hu, Nat.le_of_ble_eq_true rfl, ?_⟩
      conv => whnf
      refine callee hc (s_finG hr hu hu5 ok0.2.2.1 ok0.2.2.2 (fun S h q => by exact absurd (hf.symm.trans q) (by intro w; cases w)) ?_)
      intro e' S h q hr
      conv => whnf
      exact ⟨rfl, rfl, g2 0 (by omega) c_ e' S h q hr⟩
    | inr S =>
      conv => whnf
      refine hK _ _ _ _ _ _ (go hc 17 (fun K hK => ?_))
      conv => whnf
      refine ⟨_, _, hr.Du hu, rfl, ?_⟩
      conv => whnf
      refine ⟨_, _, hr.S _ (by omega), rfl, ?_⟩
      conv => whnf
      refine ⟨_, hr.C _ (by omega), Nat.le_of_ble_eq_true rfl, ?_⟩
      conv => whnf
      refine callee hc (s_plG hr hu5 ?_)
      intro h hr
      conv => whnf
      refine ⟨_, _, hr.Du hu, rfl, ?_⟩
      conv => whnf
      refine ⟨_, _, hr.S _ (by omega), rfl, ?_⟩
      conv => whnf
      refine ⟨_, hr.C _ (by omega), Nat.le_of_ble_eq_true rfl, ?_⟩
      conv => whnf
      refine callee hc (s_cbc hr hu5 hti hni ok0.1 ?_)
      intro h hr
      conv => whnf
      refine ⟨_, _, hr.Du hu, rfl, ?_⟩
      conv => whnf
      refine ⟨_, _, hr.S _ (by omega), rfl, ?_⟩
      conv => whnf
      refine ⟨_, hr.C _ (by omega), Nat.le_of_ble_eq_true rfl, ?_⟩
      conv => whnf
      refine callee hc (s_cbc hr hu5 htj hnj ok0.2.1 ?_)
      intro h hr
      conv => whnf
      refine ⟨_, hr.Du hu, Nat.le_of_ble_eq_true rfl, ?_⟩
      conv => whnf
      refine callee hc (s_finG hr hu hu5 ok0.2.2.1 ok0.2.2.2 (h0 := fun e S h q => by exact absurd (hf.symm.trans q) (by intro w; cases w)) ?_)
      intro S h q hr
      conv => whnf
      exact hK _ _ _ _ _ _ (hend 0 S h (by omega) c_ q hr)
  · cases hf : finK (cmS (gS W t1) (gS W t2) 1) with
    | inl e =>
      conv => whnf
      refine hK _ _ _ _ _ _ (go hc 19 (fun K hK => ?_))
      conv => whnf
      refine ⟨_, _, hr.Du hu, rfl, ?_⟩
      conv => whnf
      refine ⟨_, _, hr.S _ (by omega), rfl, ?_⟩
      conv => whnf
      refine ⟨_, hr.C _ (by omega), Nat.le_of_ble_eq_true rfl, ?_⟩
      conv => whnf
      refine callee hc (s_allK hr hu5 ?_)
      intro h hr
      conv => whnf
      refine ⟨_, _, hr.Du hu, rfl, ?_⟩
      conv => whnf
      refine ⟨_, _, hr.S _ (by omega), rfl, ?_⟩
      conv => whnf
      refine ⟨_, _, hr.S _ (by omega), rfl, ?_⟩
      conv => whnf
      refine ⟨_, hr.C _ (by omega), Nat.le_of_ble_eq_true rfl, ?_⟩
      conv => whnf
      refine callee hc (s_cbgK hr hu5 hti hni ok1.1 ?_)
      intro h hr
      conv => whnf
      refine ⟨_, _, hr.Du hu, rfl, ?_⟩
      conv => whnf
      refine ⟨_, _, hr.S _ (by omega), rfl, ?_⟩
      conv => whnf
      refine ⟨_, _, hr.S _ (by omega), rfl, ?_⟩
      conv => whnf
      refine ⟨_, hr.C _ (by omega), Nat.le_of_ble_eq_true rfl, ?_⟩
      conv => whnf
      refine callee hc (s_cbgK hr hu5 htj hnj ok1.2.1 ?_)
      intro h hr
      conv => whnf
      refine ⟨_, hr.Du hu, Nat.le_of_ble_eq_true rfl, ?_⟩
      conv => whnf
      refine callee hc (s_finK hr hu hu5 ok1.2.2.1 ok1.2.2.2 (fun S h q => by exact absurd (hf.symm.trans q) (by intro w; cases w)) ?_)
      intro e' S h q hr
      conv => whnf
      exact ⟨rfl, rfl, g2 1 (by omega) c_ e' S h q hr⟩
    | inr S =>
      conv => whnf
      refine hK _ _ _ _ _ _ (go hc 19 (fun K hK => ?_))
      conv => whnf
      refine ⟨_, _, hr.Du hu, rfl, ?_⟩
      conv => whnf
      refine ⟨_, _, hr.S _ (by omega), rfl, ?_⟩
      conv => whnf
      refine ⟨_, hr.C _ (by omega), Nat.le_of_ble_eq_true rfl, ?_⟩
      conv => whnf
      refine callee hc (s_allK hr hu5 ?_)
      intro h hr
      conv => whnf
      refine ⟨_, _, hr.Du hu, rfl, ?_⟩
      conv => whnf
      refine ⟨_, _, hr.S _ (by omega), rfl, ?_⟩
      conv => whnf
      refine ⟨_, _, hr.S _ (by omega), rfl, ?_⟩
      conv => whnf
      refine ⟨_, hr.C _ (by omega), Nat.le_of_ble_eq_true rfl, ?_⟩
      conv => whnf
      refine callee hc (s_cbgK hr hu5 hti hni ok1.1 ?_)
      intro h hr
      conv => whnf
      refine ⟨_, _, hr.Du hu, rfl, ?_⟩
      conv => whnf
      refine ⟨_, _, hr.S _ (by omega), rfl, ?_⟩
      conv => whnf
      refine ⟨_, _, hr.S _ (by omega), rfl, ?_⟩
      conv => whnf
      refine ⟨_, hr.C _ (by omega), Nat.le_of_ble_eq_true rfl, ?_⟩
      conv => whnf
      refine callee hc (s_cbgK hr hu5 htj hnj ok1.2.1 ?_)
      intro h hr
      conv => whnf
      refine ⟨_, hr.Du hu, Nat.le_of_ble_eq_true rfl, ?_⟩
      conv => whnf
      refine callee hc (s_finK hr hu hu5 ok1.2.2.1 ok1.2.2.2 (h0 := fun e S h q => by exact absurd (hf.symm.trans q) (by intro w; cases w)) ?_)
      intro S h q hr
      conv => whnf
      exact hK _ _ _ _ _ _ (hend 1 S h (by omega) c_ q hr)
  · cases hf : finK (cmS (gS W t1) (gS W t2) 2) with
    | inl e =>
      conv => whnf
      refine hK _ _ _ _ _ _ (go hc 11 (fun K hK => ?_))
      conv => whnf
      refine ⟨_, _, hr.Du hu, rfl, ?_⟩
      conv => whnf
      refine ⟨_, _, hr.S _ (by omega), rfl, ?_⟩
      conv => whnf
      refine ⟨_, hr.C _ (by omega), Nat.le_of_ble_eq_true rfl, ?_⟩
      conv => whnf
      refine callee hc (s_allK hr hu5 ?_)
      intro h hr
      conv => whnf
      refine ⟨_, hr.Du hu, Nat.le_of_ble_eq_true rfl, ?_⟩
      conv => whnf
      refine callee hc (s_cutBySums hr hu hu5 hti htj hni hnj bi bj ok2.1 ?_)
      intro h hr
      conv => whnf
      refine ⟨_, hr.Du hu, Nat.le_of_ble_eq_true rfl, ?_⟩
      conv => whnf
      refine callee hc (s_finK hr hu hu5 ok2.2.1 ok2.2.2 (fun S h q => by exact absurd (hf.symm.trans q) (by intro w; cases w)) ?_)
      intro e' S h q hr
      conv => whnf
      exact ⟨rfl, rfl, g2 2 (by omega) c_ e' S h q hr⟩
    | inr S =>
      conv => whnf
      refine hK _ _ _ _ _ _ (go hc 11 (fun K hK => ?_))
      conv => whnf
      refine ⟨_, _, hr.Du hu, rfl, ?_⟩
      conv => whnf
      refine ⟨_, _, hr.S _ (by omega), rfl, ?_⟩
      conv => whnf
      refine ⟨_, hr.C _ (by omega), Nat.le_of_ble_eq_true rfl, ?_⟩
      conv => whnf
      refine callee hc (s_allK hr hu5 ?_)
      intro h hr
      conv => whnf
      refine ⟨_, hr.Du hu, Nat.le_of_ble_eq_true rfl, ?_⟩
      conv => whnf
      refine callee hc (s_cutBySums hr hu hu5 hti htj hni hnj bi bj ok2.1 ?_)
      intro h hr
      conv => whnf
      refine ⟨_, hr.Du hu, Nat.le_of_ble_eq_true rfl, ?_⟩
      conv => whnf
      refine callee hc (s_finK hr hu hu5 ok2.2.1 ok2.2.2 (h0 := fun e S h q => by exact absurd (hf.symm.trans q) (by intro w; cases w)) ?_)
      intro S h q hr
      conv => whnf
      exact hK _ _ _ _ _ _ (hend 2 S h (by omega) c_ q hr)
/-- map: b is 0 for images, 1 for origins -/
def mpF (W : AW) (A : SH) (b : Int32) : Nat ⊕ SH := if b = 0 then finK (cutA (e3, []) (imR W A)) else finG (cutA (og0 A) (ogR W A))
def okMap (W : AW) (A : SH) (b : Int32) : Prop := if b = 0 then okR (e3, []) (imR W A) ∧ okFK (cutA (e3, []) (imR W A)) else okR (og0 A) (ogR W A) ∧ okFG (cutA (og0 A) (ogR W A))
theorem s_map (hr : RepS W X h) {x y b : Int32} (hs : W.2.1 ≤ 6) (hu : W.2.2.2.2.1 = u) (hu5 : u < 5) (ht : ∀ i, i < 4 → W.2.2.2.1 i < 5 ∧ u ≠ W.2.2.2.1 i)
    (hok : ∀ i, i < 4 → okMap W (gS W (W.2.2.2.1 i)) b)
    (h0 : slB x ∨ slB y → Q (.inr 0) h) (h1 : ¬ (slB x ∨ slB y) → ¬ W.2.1 = 6 → Q (.inr 1) h)
    (h2 : ∀ i j, i < 4 → j < 4 → x = nI i → y = nI j → W.2.1 = 6 → ∀ e S h, mpF W (gS W (W.2.2.2.1 i)) b = .inl e → RepS (sS W u S) X h → Q (.inr e) h)
    (h3 : ∀ i j, i < 4 → j < 4 → x = nI i → y = nI j → W.2.1 = 6 → ∀ S h, mpF W (gS W (W.2.2.2.1 i)) b = .inr S → RepS (keepW W j 0 S) X h → Q (.inl (some (.int (degS S)))) h) : wpC sc (d + 8) 48 [.ref 0, .int x, .int b, .int y] h Q := by
  rw [← sS_id W u] at hr
  by_cases hx : slB x
  · refine enter rfl rfl (fun call hc => go hc 13 (fun K hK => ?_))
    conv => whnf
    refine ⟨_, hr.Du hu, Nat.le_of_ble_eq_true rfl, ?_⟩
    conv => whnf
    refine callee hc (s_shapeBad hr hx ?_)
    conv => whnf
    exact ⟨rfl, rfl, h0 (Or.inl hx)⟩
  obtain ⟨i, hi, rfl⟩ := (slot_cases x).resolve_left hx
  by_cases hy : slB y
  · refine enter rfl rfl (fun call hc => go hc 13 (fun K hK => ?_))
    conv => whnf
    refine ⟨_, hr.Du hu, Nat.le_of_ble_eq_true rfl, ?_⟩
    conv => whnf
    refine callee hc (s_shapeAt hr hi ?_)
    conv => whnf
    refine ⟨_, hr.Du hu, Nat.le_of_ble_eq_true rfl, ?_⟩
    conv => whnf
    refine callee hc (s_shapeBad hr hy ?_)
    conv => whnf
    exact ⟨rfl, rfl, h0 (Or.inr hy)⟩
  obtain ⟨j, hj, rfl⟩ := (slot_cases y).resolve_left hy
  by_cases h6 : W.2.1 = 6
  · obtain ⟨hti, hni⟩ := ht i hi
    have g2 := h2 i j hi hj rfl rfl h6
    have g3 := h3 i j hi hj rfl rfl h6
    have ok0 := hok i hi
    generalize hT1 : W.2.2.2.1 i = t1 at *
    unfold mpF at g2 g3
    unfold okMap at ok0
    refine enter rfl rfl (fun call hc => go hc 13 (fun K hK => ?_))
    conv => whnf
    refine ⟨_, hr.Du hu, Nat.le_of_ble_eq_true rfl, ?_⟩
    conv => whnf
    refine callee hc (s_shapeAt hr hi ?_)
    rw [show (sS W u (gS W u)).2.2.2.1 i = t1 from hT1]
    conv => whnf
    refine ⟨_, hr.Du hu, Nat.le_of_ble_eq_true rfl, ?_⟩
    conv => whnf
    refine callee hc (s_shapeAt hr hj ?_)
    conv => whnf
    refine ⟨_, hr.Du hu, Nat.le_of_ble_eq_true rfl, ?_⟩
    conv => whnf
    refine callee hc (s_need hr (n := 6) h6 ?_)
    conv => whnf
    by_cases hb : b = 0
    · rw [if_pos hb] at g2 g3 ok0
      cases hf : finK (cutA (e3, []) (imR W (gS W t1))) with
      | inl e =>
        refine ⟨fun c_ => ?_, fun c_ => absurd (hb) c_⟩
        conv => whnf
        refine hK _ _ _ _ _ _ (go hc 5 (fun K hK => ?_))
        conv => whnf
        refine ⟨_, hr.Du hu, Nat.le_of_ble_eq_true rfl, ?_⟩
        conv => whnf
        refine callee hc (s_images hr hu hu5 hti hni ok0.1 ?_)
        intro h hr
        conv => whnf
        refine ⟨_, hr.Du hu, Nat.le_of_ble_eq_true rfl, ?_⟩
        conv => whnf
        refine callee hc (s_finK hr hu hu5 ok0.2.1 ok0.2.2 (fun S h q => by exact absurd (hf.symm.trans q) (by intro w; cases w)) ?_)
        intro e' S h q hr
        conv => whnf
        exact ⟨rfl, rfl, g2 e' S h q hr⟩
      | inr S =>
        refine ⟨fun c_ => ?_, fun c_ => absurd (hb) c_⟩
        conv => whnf
        refine hK _ _ _ _ _ _ (go hc 5 (fun K hK => ?_))
        conv => whnf
        refine ⟨_, hr.Du hu, Nat.le_of_ble_eq_true rfl, ?_⟩
        conv => whnf
        refine callee hc (s_images hr hu hu5 hti hni ok0.1 ?_)
        intro h hr
        conv => whnf
        refine ⟨_, hr.Du hu, Nat.le_of_ble_eq_true rfl, ?_⟩
        conv => whnf
        refine callee hc (s_finK hr hu hu5 ok0.2.1 ok0.2.2 (h0 := fun e S h q => by exact absurd (hf.symm.trans q) (by intro w; cases w)) ?_)
        intro S h q hr
        conv => whnf
        refine hK _ _ _ _ _ _ ?_
        refine go hc 7 (fun K hK => ?_)
        conv => whnf
        refine ⟨_, hr.Du hu, Nat.le_of_ble_eq_true rfl, ?_⟩
        replace hr := RepS.saidU hr hu 0
        conv => whnf
        refine ⟨_, hr.Du hu, Nat.le_of_ble_eq_true rfl, ?_⟩
        conv => whnf
        refine callee hc (s_keepS hr hu hu5 hj ?_)
        intro h hr
        conv => whnf
        exact g3 S h q hr
    · rw [if_neg hb] at g2 g3 ok0
      cases hf : finG (cutA (og0 (gS W t1)) (ogR W (gS W t1))) with
      | inl e =>
        refine ⟨fun c_ => absurd c_ (hb), fun c_ => ?_⟩
        conv => whnf
        refine hK _ _ _ _ _ _ (go hc 6 (fun K hK => ?_))
        conv => whnf
        refine ⟨_, hr.Du hu, Nat.le_of_ble_eq_true rfl, ?_⟩
        conv => whnf
        refine callee hc (s_origins hr hu hu5 hti hni ok0.1 ?_)
        intro h hr
        conv => whnf
        refine ⟨_, hr.Du hu, Nat.le_of_ble_eq_true rfl, ?_⟩
        conv => whnf
        refine callee hc (s_finG hr hu hu5 ok0.2.1 ok0.2.2 (fun S h q => by exact absurd (hf.symm.trans q) (by intro w; cases w)) ?_)
        intro e' S h q hr
        conv => whnf
        exact ⟨rfl, rfl, g2 e' S h q hr⟩
      | inr S =>
        refine ⟨fun c_ => absurd c_ (hb), fun c_ => ?_⟩
        conv => whnf
        refine hK _ _ _ _ _ _ (go hc 6 (fun K hK => ?_))
        conv => whnf
        refine ⟨_, hr.Du hu, Nat.le_of_ble_eq_true rfl, ?_⟩
        conv => whnf
        refine callee hc (s_origins hr hu hu5 hti hni ok0.1 ?_)
        intro h hr
        conv => whnf
        refine ⟨_, hr.Du hu, Nat.le_of_ble_eq_true rfl, ?_⟩
        conv => whnf
        refine callee hc (s_finG hr hu hu5 ok0.2.1 ok0.2.2 (h0 := fun e S h q => by exact absurd (hf.symm.trans q) (by intro w; cases w)) ?_)
        intro S h q hr
        conv => whnf
        refine hK _ _ _ _ _ _ ?_
        refine go hc 7 (fun K hK => ?_)
        conv => whnf
        refine ⟨_, hr.Du hu, Nat.le_of_ble_eq_true rfl, ?_⟩
        replace hr := RepS.saidU hr hu 0
        conv => whnf
        refine ⟨_, hr.Du hu, Nat.le_of_ble_eq_true rfl, ?_⟩
        conv => whnf
        refine callee hc (s_keepS hr hu hu5 hj ?_)
        intro h hr
        conv => whnf
        exact g3 S h q hr
  · refine enter rfl rfl (fun call hc => go hc 13 (fun K hK => ?_))
    conv => whnf
    refine ⟨_, hr.Du hu, Nat.le_of_ble_eq_true rfl, ?_⟩
    conv => whnf
    refine callee hc (s_shapeAt hr hi ?_)
    conv => whnf
    refine ⟨_, hr.Du hu, Nat.le_of_ble_eq_true rfl, ?_⟩
    conv => whnf
    refine callee hc (s_shapeAt hr hj ?_)
    conv => whnf
    refine ⟨_, hr.Du hu, Nat.le_of_ble_eq_true rfl, ?_⟩
    conv => whnf
    refine callee hc (s_needBad hr hs (n := 6) (by omega) h6 ?_)
    conv => whnf
    exact ⟨rfl, rfl, h1 (fun q => q.elim hx hy) h6⟩
end OPS3
