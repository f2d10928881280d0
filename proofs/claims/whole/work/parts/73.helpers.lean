/-! slots and kinds as numbers -/
theorem slot_i {i : Nat} (h : i < 4) : slotB (nI i) = true := decide_eq_true (fun q => q.elim (fun q => nI_nlt (a := i) (b := 0) (by omega) (by omega) q) (fun q => q (nI_lt (a := i) (b := 4) h (by decide))))
theorem kd_i {k : Nat} (h : k < 5) : kdB (nI k) = true := decide_eq_true ⟨fun q => nI_nlt (a := k) (b := 0) (by omega) (by omega) q, fun q => nI_nlt (a := 4) (b := k) (by omega) (by omega) q⟩
theorem nI_int {n : Nat} (h : n < 2 ^ 31) : (nI n).toInt = (n : Int) := Int32.toInt_ofNat_of_lt h
/-! the law's helpers -/
section LAWH2
variable {sc : Scr} {d : Nat} {W : AW} {m : MM} {o : Nat → Int64} {h : PH} {Q : Out → PH → Prop} {a : RSt} {P : AW → RSt → Prop}
theorem L_set (G : Good P) (hP : P W a) (hr : RepS W (toM m ++ [oA o]) h) {x : Int32} {p : Bool}
    (hQ : ∀ W' o' h', RepS W' (toM m ++ [oA o']) h' → P W' (rSet a x p).2.2 → Q (.inl (some (.int (nI (rSet a x p).1)))) h') : wpC sc (d + 9) 145 [.ref 0, .int x, .int (bI01 p)] h Q := by
  obtain ⟨hb, hsm, hdr⟩ := G.1 W a hP
  have hs : W.2.1 ≤ 6 := by rw [hb.2.1]; exact hb.1.2.2
  have hnm : ∀ i, i < 6 → -30 ≤ nm W i ∧ nm W i ≤ 30 := fun i hi => by rw [hb.2.2.1 i hi]; exact hb.1.2.1 i hi
  have ht5 : ∀ i, i < 4 → W.2.2.2.1 i < 5 := fun i hi => (hb.2.2.2.2.1 i hi).1
  unfold rSet at hQ
  refine enter rfl rfl (fun call hc => go hc 7 (fun K hK => ?_))
  conv => whnf
  refine ⟨_, hr.D, Nat.le_of_ble_eq_true rfl, ?_⟩
  conv => whnf
  refine callee hc (s_set hr ht5 ?_ ?_)
  · intro q
    rw [if_pos (slB_f q)] at hQ
    conv => whnf
    exact hQ W o h hr hP
  · intro i hi he h' hr'
    subst he
    rw [if_neg (by rw [slB_t (x := nI i) (fun q => by have := slot_i hi; rw [slB_f q] at this; cases this)]; decide), nI_clamp (by omega)] at hQ
    conv => whnf
    exact hQ _ _ _ hr' (G.2.2.2.1.2 W a i p hP hi)
theorem L_cst (G : Good P) (hP : P W a) (hr : RepS W (toM m ++ [oA o]) h) {x : Int32} {b : Bool}
    (hQ : ∀ W' o' h', RepS W' (toM m ++ [oA o']) h' → P W' (rCst a x b).2.2 → ((rCst a x b).1 = 0 → o' 0 = (rCst a x b).2.1.toInt64) → Q (.inl (some (.int (nI (rCst a x b).1)))) h') : wpC sc (d + 9) 146 [.ref 0, .int x, .int (bI01 b), .ref 72] h Q := by
  obtain ⟨hb, hsm, hdr⟩ := G.1 W a hP
  have hs : W.2.1 ≤ 6 := by rw [hb.2.1]; exact hb.1.2.2
  have hnm : ∀ i, i < 6 → -30 ≤ nm W i ∧ nm W i ≤ 30 := fun i hi => by rw [hb.2.2.1 i hi]; exact hb.1.2.1 i hi
  have ht5 : ∀ i, i < 4 → W.2.2.2.1 i < 5 := fun i hi => (hb.2.2.2.2.1 i hi).1
  refine enter rfl rfl (fun call hc => go hc 11 (fun K hK => ?_))
  conv => whnf
  refine ⟨_, hr.D, Nat.le_of_ble_eq_true rfl, ?_⟩
  conv => whnf
  refine callee hc (s_constrain hr hs rfl hb.2.2.2.1 (fun i hi => hb.2.2.2.2.1 i hi) hnm (fun i hi => (G.2.2.2.2.1 W a i b hP hi).1) ?_ ?_ ?_ ?_)
  · intro q
    have e : rCst a x b = (1, 0, a) := if_pos (slB_f q)
    rw [e] at hQ
    conv => whnf
    exact hQ W o h hr hP (fun z => by cases z)
  · intro q q2
    have e : rCst a x b = (2, 0, a) := by unfold rCst; rw [if_neg (by rw [slB_t q]; decide), if_pos (by rw [← hb.2.1]; exact q2)]
    rw [e] at hQ
    conv => whnf
    exact hQ W o h hr hP (fun z => by cases z)
  · intro i hi he q3 ex S h' hfin hr'
    subst he
    have ag := ((G.2.2.2.2.1 W a i b hP hi).2.2 (by rw [← hb.2.1]; exact q3)).2
    rw [hfin] at ag
    obtain ⟨e1, e2⟩ := ag
    rw [e1] at hQ
    rcases e2 with ⟨rfl, e2⟩ | ⟨rfl, e2⟩
    · rw [e2] at hQ
      conv => whnf
      exact hQ _ _ _ hr' (hdr S) (fun z => by cases z)
    · rw [e2] at hQ
      conv => whnf
      exact hQ _ _ _ hr' (hdr S) (fun z => by cases z)
  · intro i hi he q3 S h' hfin hr'
    subst he
    have ag := ((G.2.2.2.2.1 W a i b hP hi).2.2 (by rw [← hb.2.1]; exact q3)).2
    rw [hfin] at ag
    obtain ⟨e1, e2, e3⟩ := ag
    rw [e1, e2] at hQ
    conv => whnf
    refine ⟨_, _, hr'.out, vp_in_nI (n := 0) (by omega) (by omega), ?_⟩
    conv => whnf
    exact hQ _ _ _ hr'.sout e3 (fun _ => if_pos rfl)
theorem L_gen (G : Good P) (hP : P W a) (hr : RepS W (toM m ++ [oA o]) h) {x : Int32} {b : Bool}
    (hQ : ∀ W' o' h', RepS W' (toM m ++ [oA o']) h' → P W' (rGen a x b).2.2 → ((rGen a x b).1 = 0 → o' 0 = (rGen a x b).2.1.toInt64) → Q (.inl (some (.int (nI (rGen a x b).1)))) h') : wpC sc (d + 9) 147 [.ref 0, .int x, .int (bI01 b), .ref 72] h Q := by
  obtain ⟨hb, hsm, hdr⟩ := G.1 W a hP
  have hs : W.2.1 ≤ 6 := by rw [hb.2.1]; exact hb.1.2.2
  have hnm : ∀ i, i < 6 → -30 ≤ nm W i ∧ nm W i ≤ 30 := fun i hi => by rw [hb.2.2.1 i hi]; exact hb.1.2.1 i hi
  have ht5 : ∀ i, i < 4 → W.2.2.2.1 i < 5 := fun i hi => (hb.2.2.2.2.1 i hi).1
  have n0 := nm_i hb (i := 0) (by omega)
  have n1 := nm_i hb (i := 1) (by omega)
  have n2 := nm_i hb (i := 2) (by omega)
  have q0 := hb.1.2.1 0 (by omega)
  have q1 := hb.1.2.1 1 (by omega)
  have q2' := hb.1.2.1 2 (by omega)
  have z0 : W.2.2.1 0 = 0 ↔ a.2.1 0 = 0 := by rw [n0]; exact i0_eq q0
  have gB : genB W (bI01 b) ↔ (a.2.1 0 < 0 ∨ (a.2.1 0 = 0 ∧ a.2.1 1 = 0 ∧ a.2.1 2 = 0) ∨ (0 < a.2.1 0 ∧ b = true)) := by
    unfold genB
    rw [n0, n1, n2, i0_lt q0, i0_eq q0, i0_eq q1, i0_eq q2', show (0 < Int32.ofInt (a.2.1 0)) ↔ 0 < a.2.1 0 from by rw [← Int32.not_le, i0_le q0]; omega, b01_0]
    cases b <;> simp
  have gb : (¬ W.2.1 = 3 ∨ genB W (bI01 b)) ↔ gnBad a b := by rw [hb.2.1, gB]
  refine enter rfl rfl (fun call hc => go hc 11 (fun K hK => ?_))
  conv => whnf
  refine ⟨_, hr.D, Nat.le_of_ble_eq_true rfl, ?_⟩
  conv => whnf
  refine callee hc (s_generate hr hs rfl hb.2.2.2.1 (fun i hi => hb.2.2.2.2.1 i hi) hnm (fun i hi => (G.2.2.2.2.2.1 W a i b hP hi).1) ?_ ?_ ?_ ?_ ?_)
  · intro q
    have e : rGen a x b = (1, 0, a) := if_pos (slB_f q)
    rw [e] at hQ
    conv => whnf
    exact hQ W o h hr hP (fun z => by cases z)
  · intro q q2
    have e : rGen a x b = (2, 0, a) := by unfold rGen; rw [if_neg (by rw [slB_t q]; decide), if_pos (gb.mp q2)]
    rw [e] at hQ
    conv => whnf
    exact hQ W o h hr hP (fun z => by cases z)
  · intro i hi he q3 nb qe
    subst he
    have ngb : ¬ gnBad a b := fun z => (gb.mpr z).elim (fun z => z q3) nb
    have g := ((G.2.2.2.2.2.1 W a i b hP hi).2.2 ngb).1
    have e : rGen a (nI i) b = (3, 0, a) := by unfold rGen; rw [if_neg (by rw [slot_i hi]; decide), if_neg ngb, nI_clamp (by omega), if_pos ⟨g.mp qe.1, z0.mp qe.2⟩]
    rw [e] at hQ
    conv => whnf
    exact hQ W o h hr hP (fun z => by cases z)
  · intro i hi he q3 nb ne ex S h' hfin hr'
    subst he
    have ngb : ¬ gnBad a b := fun z => (gb.mpr z).elim (fun z => z q3) nb
    have g := (G.2.2.2.2.2.1 W a i b hP hi).2.2 ngb
    have ag := (g.2 (fun z => ne ⟨g.1.mpr z.1, z0.mpr z.2⟩)).2
    rw [hfin] at ag
    obtain ⟨e1, e2⟩ := ag
    rw [e1] at hQ
    rcases e2 with ⟨rfl, e2⟩ | ⟨rfl, e2⟩
    · rw [e2] at hQ
      conv => whnf
      exact hQ _ _ _ hr' (hdr S) (fun z => by cases z)
    · rw [e2] at hQ
      conv => whnf
      exact hQ _ _ _ hr' (hdr S) (fun z => by cases z)
  · intro i hi he q3 nb ne S h' hfin hr'
    subst he
    have ngb : ¬ gnBad a b := fun z => (gb.mpr z).elim (fun z => z q3) nb
    have g := (G.2.2.2.2.2.1 W a i b hP hi).2.2 ngb
    have ag := (g.2 (fun z => ne ⟨g.1.mpr z.1, z0.mpr z.2⟩)).2
    rw [hfin] at ag
    obtain ⟨e1, e2, e3⟩ := ag
    rw [e1, e2] at hQ
    conv => whnf
    refine ⟨_, _, hr'.out, vp_in_nI (n := 0) (by omega) (by omega), ?_⟩
    conv => whnf
    exact hQ _ _ _ hr'.sout e3 (fun _ => if_pos rfl)
theorem L_cmb (G : Good P) (hP : P W a) (hr : RepS W (toM m ++ [oA o]) h) {k x y z : Int32}
    (hQ : ∀ W' o' h', RepS W' (toM m ++ [oA o']) h' → P W' (rCmb a k x y z).2.2 → ((rCmb a k x y z).1 = 0 → o' 0 = (rCmb a k x y z).2.1.toInt64) → Q (.inl (some (.int (nI (rCmb a k x y z).1)))) h') : wpC sc (d + 9) 148 [.ref 0, .int k, .int x, .int y, .int z, .ref 72] h Q := by
  obtain ⟨hb, hsm, hdr⟩ := G.1 W a hP
  have hs : W.2.1 ≤ 6 := by rw [hb.2.1]; exact hb.1.2.2
  have hnm : ∀ i, i < 6 → -30 ≤ nm W i ∧ nm W i ≤ 30 := fun i hi => by rw [hb.2.2.1 i hi]; exact hb.1.2.1 i hi
  have ht5 : ∀ i, i < 4 → W.2.2.2.1 i < 5 := fun i hi => (hb.2.2.2.2.1 i hi).1
  refine enter rfl rfl (fun call hc => go hc 13 (fun K hK => ?_))
  conv => whnf
  refine ⟨_, hr.D, Nat.le_of_ble_eq_true rfl, ?_⟩
  conv => whnf
  refine callee hc (s_combine hr rfl hb.2.2.2.1 (fun i hi => hb.2.2.2.2.1 i hi) (fun i hi v hv => ((hsm i hi).2.2.2.1 v hv).mono (by decide)) (fun i j q hi hj hq => (G.2.2.2.2.2.2.1 W a i j hP hi hj).1 q hq) ?_ ?_ ?_ ?_)
  · intro q
    have e : rCmb a k x y z = (1, 0, a) := if_pos (by rcases q with q | q | q; exact Or.inl (slB_f q); exact Or.inr (Or.inl (slB_f q)); exact Or.inr (Or.inr (slB_f q)))
    rw [e] at hQ
    conv => whnf
    exact hQ W o h hr hP (fun z => by cases z)
  · intro q q2
    have e : rCmb a k x y z = (2, 0, a) := by
      have ck : cmbK k = false := by
        refine decide_eq_false (p := ¬ (k < 0 ∨ ¬ k ≤ 2)) (fun z => z ?_)
        rw [Int32.lt_iff_toInt_lt, Int32.le_iff_toInt_le]
        have e0 : (0 : Int32).toInt = 0 := rfl
        have e2 : (2 : Int32).toInt = 2 := rfl
        omega
      unfold rCmb
      rw [if_neg (by rw [slB_t (fun z => q (Or.inl z)), slB_t (fun z => q (Or.inr (Or.inl z))), slB_t (fun z => q (Or.inr (Or.inr z)))]; decide), if_pos ck]
    rw [e] at hQ
    conv => whnf
    exact hQ W o h hr hP (fun z => by cases z)
  · intro i j t q hi hj ht hq e1 e2 e3 ek ex S h' hfin hr'
    subst e1; subst e2; subst e3
    have ekk : k = nI q := by
      rw [← Int32.toInt_inj, ek]
      exact (nI_int (by omega)).symm
    subst ekk
    have ag := (G.2.2.2.2.2.2.1 W a i j hP hi hj).2.2.2.2 t q ht hq
    rw [hfin] at ag
    obtain ⟨e1, e2⟩ := ag
    rw [e1] at hQ
    rcases e2 with ⟨rfl, e2⟩ | ⟨rfl, e2⟩
    · rw [e2] at hQ
      conv => whnf
      exact hQ _ _ _ hr' (hdr S) (fun z => by cases z)
    · rw [e2] at hQ
      conv => whnf
      exact hQ _ _ _ hr' (hdr S) (fun z => by cases z)
  · intro i j t q hi hj ht hq e1 e2 e3 ek S h' hfin hr'
    subst e1; subst e2; subst e3
    have ekk : k = nI q := by
      rw [← Int32.toInt_inj, ek]
      exact (nI_int (by omega)).symm
    subst ekk
    have ag := (G.2.2.2.2.2.2.1 W a i j hP hi hj).2.2.2.2 t q ht hq
    rw [hfin] at ag
    obtain ⟨e1, e2, e3⟩ := ag
    rw [e1, e2] at hQ
    conv => whnf
    refine ⟨_, _, hr'.out, vp_in_nI (n := 0) (by omega) (by omega), ?_⟩
    conv => whnf
    exact hQ _ _ _ hr'.sout e3 (fun _ => if_pos rfl)
theorem L_map (G : Good P) (hP : P W a) (hr : RepS W (toM m ++ [oA o]) h) {x y : Int32} {b : Bool}
    (hQ : ∀ W' o' h', RepS W' (toM m ++ [oA o']) h' → P W' (rMap a x b y).2.2 → ((rMap a x b y).1 = 0 → o' 0 = (rMap a x b y).2.1.toInt64) → Q (.inl (some (.int (nI (rMap a x b y).1)))) h') : wpC sc (d + 9) 149 [.ref 0, .int x, .int (bI01 b), .int y, .ref 72] h Q := by
  obtain ⟨hb, hsm, hdr⟩ := G.1 W a hP
  have hs : W.2.1 ≤ 6 := by rw [hb.2.1]; exact hb.1.2.2
  have hnm : ∀ i, i < 6 → -30 ≤ nm W i ∧ nm W i ≤ 30 := fun i hi => by rw [hb.2.2.1 i hi]; exact hb.1.2.1 i hi
  have ht5 : ∀ i, i < 4 → W.2.2.2.1 i < 5 := fun i hi => (hb.2.2.2.2.1 i hi).1
  refine enter rfl rfl (fun call hc => go hc 12 (fun K hK => ?_))
  conv => whnf
  refine ⟨_, hr.D, Nat.le_of_ble_eq_true rfl, ?_⟩
  conv => whnf
  refine callee hc (s_map hr hs rfl hb.2.2.2.1 (fun i hi => hb.2.2.2.2.1 i hi) (fun i hi => (G.2.2.2.2.2.2.2.1 W a i b hP hi).1) ?_ ?_ ?_ ?_)
  · intro q
    have e : rMap a x b y = (1, 0, a) := if_pos (by rcases q with q | q; exact Or.inl (slB_f q); exact Or.inr (slB_f q))
    rw [e] at hQ
    conv => whnf
    exact hQ W o h hr hP (fun z => by cases z)
  · intro q q2
    have e : rMap a x b y = (2, 0, a) := by unfold rMap; rw [if_neg (by rw [slB_t (fun z => q (Or.inl z)), slB_t (fun z => q (Or.inr z))]; decide), if_pos (by rw [← hb.2.1]; exact q2)]
    rw [e] at hQ
    conv => whnf
    exact hQ W o h hr hP (fun z => by cases z)
  · intro i t hi ht e1 e2 q6 ex S h' hfin hr'
    subst e1; subst e2
    have ag := (G.2.2.2.2.2.2.2.1 W a i b hP hi).2.2.2 (by rw [← hb.2.1]; exact q6) t ht
    rw [hfin] at ag
    obtain ⟨e1, e2⟩ := ag
    rw [e1] at hQ
    rcases e2 with ⟨rfl, e2⟩ | ⟨rfl, e2⟩
    · rw [e2] at hQ
      conv => whnf
      exact hQ _ _ _ hr' (hdr S) (fun z => by cases z)
    · rw [e2] at hQ
      conv => whnf
      exact hQ _ _ _ hr' (hdr S) (fun z => by cases z)
  · intro i t hi ht e1 e2 q6 S h' hfin hr'
    subst e1; subst e2
    have ag := (G.2.2.2.2.2.2.2.1 W a i b hP hi).2.2.2 (by rw [← hb.2.1]; exact q6) t ht
    rw [hfin] at ag
    obtain ⟨e1, e2, e3⟩ := ag
    rw [e1, e2] at hQ
    conv => whnf
    refine ⟨_, _, hr'.out, vp_in_nI (n := 0) (by omega) (by omega), ?_⟩
    conv => whnf
    exact hQ _ _ _ hr'.sout e3 (fun _ => if_pos rfl)
theorem L_max (G : Good P) (hP : P W a) (hr : RepS W (toM m ++ [oA o]) h) {x : Int32}
    (hQ : ∀ W' o' h', RepS W' (toM m ++ [oA o']) h' → P W' (rMax a x).2.2 → ((rMax a x).1 = 0 → o' 0 = (rMax a x).2.1.toInt64) → Q (.inl (some (.int (nI (rMax a x).1)))) h') : wpC sc (d + 9) 150 [.ref 0, .int x, .ref 72] h Q := by
  obtain ⟨hb, hsm, hdr⟩ := G.1 W a hP
  have hs : W.2.1 ≤ 6 := by rw [hb.2.1]; exact hb.1.2.2
  have hnm : ∀ i, i < 6 → -30 ≤ nm W i ∧ nm W i ≤ 30 := fun i hi => by rw [hb.2.2.1 i hi]; exact hb.1.2.1 i hi
  have ht5 : ∀ i, i < 4 → W.2.2.2.1 i < 5 := fun i hi => (hb.2.2.2.2.1 i hi).1
  refine enter rfl rfl (fun call hc => go hc 10 (fun K hK => ?_))
  conv => whnf
  refine ⟨_, hr.D, Nat.le_of_ble_eq_true rfl, ?_⟩
  conv => whnf
  refine callee hc (s_maximum hr hs ht5 ?_ ?_ ?_ ?_)
  · intro i hi v hv
    have hbv : bdV 30 v := hv.elim (fun q => (hsm i hi).2.2.2.1 v q) (fun q => (hsm i hi).2.2.1 v q)
    have p1 := bd_mul2 hbv.2.1 (hnm 0 (by omega))
    have p2 := bd_mul2 hbv.2.2 (hnm 1 (by omega))
    refine ⟨?_, hbv⟩
    unfold bdI at p1 p2 ⊢
    unfold dot
    simp only [Int.mul_zero, Int.zero_add]
    omega
  · intro q
    have e : rMax a x = (1, 0, a) := if_pos (slB_f q)
    rw [e] at hQ
    conv => whnf
    exact hQ W o h hr hP (fun z => by cases z)
  · intro q q2
    have e : rMax a x = (2, 0, a) := by unfold rMax; rw [if_neg (by rw [slB_t q]; decide), if_pos (by rw [← hb.2.1]; exact q2)]
    rw [e] at hQ
    conv => whnf
    exact hQ W o h hr hP (fun z => by cases z)
  · intro i hi he q2 h' hr'
    subst he
    have e2 : a.2.2.1 = 2 := by rw [← hb.2.1]; exact q2
    have ag := G.2.2.2.2.2.2.2.2.1 W a i hP hi e2
    have e1 : (rMax a (nI i)).1 = 0 := by
      unfold rMax
      rw [if_neg (by rw [slot_i hi]; decide), if_neg (fun z => z e2)]
      split <;> rfl
    rw [e1] at hQ
    rw [ag.1]
    conv => whnf
    refine ⟨_, _, hr'.out, vp_in_nI (n := 0) (by omega) (by omega), ?_⟩
    conv => whnf
    exact hQ _ _ _ hr'.sout ag.2 (fun _ => if_pos rfl)
theorem L_grt (G : Good P) (hP : P W a) (hr : RepS W (toM m ++ [oA o]) h) {x : Int32}
    (hQ : ∀ W' o' h', RepS W' (toM m ++ [oA o']) h' → P W' (rGrt a x).2.2 → ((rGrt a x).1 = 0 → o' 0 = (rGrt a x).2.1.toInt64) → Q (.inl (some (.int (nI (rGrt a x).1)))) h') : wpC sc (d + 9) 151 [.ref 0, .int x, .ref 72] h Q := by
  obtain ⟨hb, hsm, hdr⟩ := G.1 W a hP
  have hs : W.2.1 ≤ 6 := by rw [hb.2.1]; exact hb.1.2.2
  have hnm : ∀ i, i < 6 → -30 ≤ nm W i ∧ nm W i ≤ 30 := fun i hi => by rw [hb.2.2.1 i hi]; exact hb.1.2.1 i hi
  have ht5 : ∀ i, i < 4 → W.2.2.2.1 i < 5 := fun i hi => (hb.2.2.2.2.1 i hi).1
  refine enter rfl rfl (fun call hc => go hc 10 (fun K hK => ?_))
  conv => whnf
  refine ⟨_, hr.D, Nat.le_of_ble_eq_true rfl, ?_⟩
  conv => whnf
  refine callee hc (s_greatest hr ?_ ?_ ?_ ?_)
  · intro q
    have e : rGrt a x = (1, 0, a) := if_pos (by cases hh : a.2.2.2.1; rfl; exact absurd (hb.2.2.2.2.2.mpr hh) q)
    rw [e] at hQ
    conv => whnf
    exact hQ W o h hr hP (fun z => by cases z)
  · intro q q0 q1
    have e : rGrt a x = (2, 0, a) := by unfold rGrt; rw [if_neg (by rw [hb.2.2.2.2.2.mp q]; decide), if_pos ⟨q0, q1⟩]
    rw [e] at hQ
    conv => whnf
    exact hQ W o h hr hP (fun z => by cases z)
  · intro q q0
    have e : rGrt a x = (0, Int32.ofInt a.2.2.2.2.1, a) := by unfold rGrt; rw [if_neg (by rw [hb.2.2.2.2.2.mp q]; decide), if_neg (fun z => z.1 q0), if_pos q0]
    rw [e] at hQ
    have hr' := hr
    rw [(G.2.2.2.2.2.2.2.2.2.1 W a hP (hb.2.2.2.2.2.mp q)).1]
    conv => whnf
    refine ⟨_, _, hr'.out, vp_in_nI (n := 0) (by omega) (by omega), ?_⟩
    conv => whnf
    exact hQ _ _ _ hr'.sout hP (fun _ => if_pos rfl)
  · intro q q1
    have e : rGrt a x = (0, Int32.ofInt a.2.2.2.2.2, a) := by unfold rGrt; rw [if_neg (by rw [hb.2.2.2.2.2.mp q]; decide), if_neg (fun z => z.2 q1), if_neg (by rw [q1]; decide)]
    rw [e] at hQ
    have hr' := hr
    rw [(G.2.2.2.2.2.2.2.2.2.1 W a hP (hb.2.2.2.2.2.mp q)).2]
    conv => whnf
    refine ⟨_, _, hr'.out, vp_in_nI (n := 0) (by omega) (by omega), ?_⟩
    conv => whnf
    exact hQ _ _ _ hr'.sout hP (fun _ => if_pos rfl)
theorem L_dim (G : Good P) (hP : P W a) (hr : RepS W (toM m ++ [oA o]) h) {x : Int32}
    (hQ : ∀ W' o' h', RepS W' (toM m ++ [oA o']) h' → P W' (rDim a x).2.2 → ((rDim a x).1 = 0 → o' 0 = (rDim a x).2.1.toInt64) → Q (.inl (some (.int (nI (rDim a x).1)))) h') : wpC sc (d + 8) 154 [.ref 0, .int x, .ref 72] h Q := by
  obtain ⟨hb, hsm, hdr⟩ := G.1 W a hP
  have hs : W.2.1 ≤ 6 := by rw [hb.2.1]; exact hb.1.2.2
  have hnm : ∀ i, i < 6 → -30 ≤ nm W i ∧ nm W i ≤ 30 := fun i hi => by rw [hb.2.2.1 i hi]; exact hb.1.2.1 i hi
  have ht5 : ∀ i, i < 4 → W.2.2.2.1 i < 5 := fun i hi => (hb.2.2.2.2.1 i hi).1
  refine enter rfl rfl (fun call hc => go hc 10 (fun K hK => ?_))
  conv => whnf
  refine ⟨_, hr.D, Nat.le_of_ble_eq_true rfl, ?_⟩
  conv => whnf
  refine callee hc (s_dimension hr ht5 ?_ ?_)
  · intro q
    have e : rDim a x = (1, 0, a) := if_pos (slB_f q)
    rw [e] at hQ
    conv => whnf
    exact hQ W o h hr hP (fun z => by cases z)
  · intro i hi he
    subst he
    have ag := (G.2.2.2.2.2.2.2.2.2.2.2.2 W a i hP hi).1
    have e : rDim a (nI i) = (0, dimI (a.1 i 4) (a.1 i 0), a) := by unfold rDim; rw [if_neg (by rw [slot_i hi]; decide), nI_clamp (by omega)]
    rw [e] at hQ
    have hr' := hr
    rw [ag]
    conv => whnf
    refine ⟨_, _, hr'.out, vp_in_nI (n := 0) (by omega) (by omega), ?_⟩
    conv => whnf
    exact hQ _ _ _ hr'.sout hP (fun _ => if_pos rfl)
theorem L_rows (G : Good P) (hP : P W a) (hr : RepS W (toM m ++ [oA o]) h) {x k : Int32}
    (hQ : ∀ W' o' h', RepS W' (toM m ++ [oA o']) h' → P W' (rRows a x k).2.2 → ((rRows a x k).1 = 0 → o' 0 = (rRows a x k).2.1.toInt64) → Q (.inl (some (.int (nI (rRows a x k).1)))) h') : wpC sc (d + 8) 155 [.ref 0, .int x, .int k, .ref 72] h Q := by
  obtain ⟨hb, hsm, hdr⟩ := G.1 W a hP
  have hs : W.2.1 ≤ 6 := by rw [hb.2.1]; exact hb.1.2.2
  have hnm : ∀ i, i < 6 → -30 ≤ nm W i ∧ nm W i ≤ 30 := fun i hi => by rw [hb.2.2.1 i hi]; exact hb.1.2.1 i hi
  have ht5 : ∀ i, i < 4 → W.2.2.2.1 i < 5 := fun i hi => (hb.2.2.2.2.1 i hi).1
  refine enter rfl rfl (fun call hc => go hc 11 (fun K hK => ?_))
  conv => whnf
  refine ⟨_, hr.D, Nat.le_of_ble_eq_true rfl, ?_⟩
  conv => whnf
  refine callee hc (s_rows hr ht5 (fun i hi v hv => ((hsm i hi).2.2.2.1 v hv).inV (by decide)) ?_ ?_ ?_)
  · intro q
    have e : rRows a x k = (1, 0, a) := if_pos (slB_f q)
    rw [e] at hQ
    conv => whnf
    exact hQ W o h hr hP (fun z => by cases z)
  · intro q q2
    have e : rRows a x k = (2, 0, a) := by unfold rRows; rw [if_neg (by rw [slB_t q]; decide), if_pos q2]
    rw [e] at hQ
    conv => whnf
    exact hQ W o h hr hP (fun z => by cases z)
  · intro i kn hi hk e1 e2
    subst e1; subst e2
    have ag := ((G.2.2.2.2.2.2.2.2.2.2.2.2 W a i hP hi).2 kn hk).1
    have e : rRows a (nI i) (nI kn) = (0, nI (a.1 i kn).length, a) := by unfold rRows; rw [if_neg (by rw [slot_i hi]; decide), if_neg (by rw [kd_i hk]; decide), nI_clamp (by omega), nI_clamp (by omega)]
    rw [e] at hQ
    have hr' := hr
    rw [ag]
    conv => whnf
    refine ⟨_, _, hr'.out, vp_in_nI (n := 0) (by omega) (by omega), ?_⟩
    conv => whnf
    exact hQ _ _ _ hr'.sout hP (fun _ => if_pos rfl)
theorem L_row (G : Good P) (hP : P W a) (hr : RepS W (toM m ++ [oA o]) h) {x k i j : Int32}
    (hQ : ∀ W' o' h', RepS W' (toM m ++ [oA o']) h' → P W' (rRow a x k i j).2.2 → ((rRow a x k i j).1 = 0 → o' 0 = (rRow a x k i j).2.1.toInt64) → Q (.inl (some (.int (nI (rRow a x k i j).1)))) h') : wpC sc (d + 8) 156 [.ref 0, .int x, .int k, .int i, .int j, .ref 72] h Q := by
  obtain ⟨hb, hsm, hdr⟩ := G.1 W a hP
  have hs : W.2.1 ≤ 6 := by rw [hb.2.1]; exact hb.1.2.2
  have hnm : ∀ i, i < 6 → -30 ≤ nm W i ∧ nm W i ≤ 30 := fun i hi => by rw [hb.2.2.1 i hi]; exact hb.1.2.1 i hi
  have ht5 : ∀ i, i < 4 → W.2.2.2.1 i < 5 := fun i hi => (hb.2.2.2.2.1 i hi).1
  refine enter rfl rfl (fun call hc => go hc 13 (fun K hK => ?_))
  conv => whnf
  refine ⟨_, hr.D, Nat.le_of_ble_eq_true rfl, ?_⟩
  conv => whnf
  have jBi : jB j ↔ (j < 0 ∨ 2 < j) := by unfold jB; rw [Int32.not_le]
  refine callee hc (s_row hr ht5 (fun i hi v hv => ((hsm i hi).2.2.2.1 v hv).inV (by decide)) (fun s k hs hk => (hsm s hs).2.2.2.2 k hk) ?_ ?_ ?_ ?_)
  · intro q
    have e : rRow a x k i j = (1, 0, a) := if_pos (by
      rcases q with q | q | q
      · exact Or.inl (slB_f q)
      · rcases jBi.mp q with q | q
        · exact Or.inr (Or.inr (Or.inl q))
        · exact Or.inr (Or.inr (Or.inr q))
      · exact Or.inr (Or.inl q))
    rw [e] at hQ
    conv => whnf
    exact hQ W o h hr hP (fun z => by cases z)
  · intro q1 q2 q3 q4
    have e : rRow a x k i j = (2, 0, a) := by
      unfold rRow
      rw [if_neg (by
        rw [slB_t q1]
        rintro (z | z | z | z)
        · cases z
        · exact q3 z
        · exact q2 (jBi.mpr (Or.inl z))
        · exact q2 (jBi.mpr (Or.inr z))), if_pos q4]
    rw [e] at hQ
    conv => whnf
    exact hQ W o h hr hP (fun z => by cases z)
  · intro s kn hs' hk e1 e2 q2 q3 q4
    subst e1; subst e2
    have ag := ((G.2.2.2.2.2.2.2.2.2.2.2.2 W a s hP hs').2 kn hk).1
    rw [ag] at q4
    have e : rRow a (nI s) (nI kn) i j = (1, 0, a) := by
      unfold rRow
      rw [if_neg (by
        rw [slot_i hs']
        rintro (z | z | z | z)
        · cases z
        · exact q3 z
        · exact q2 (jBi.mpr (Or.inl z))
        · exact q2 (jBi.mpr (Or.inr z))), if_neg (by rw [kd_i hk]; decide), nI_clamp (show s < 2 ^ 31 by omega), nI_clamp (show kn < 2 ^ 31 by omega), if_neg q4]
    rw [e] at hQ
    conv => whnf
    exact hQ W o h hr hP (fun z => by cases z)
  · intro s kn i' j' hs' hk hi' hj' e1 e2 e3 e4
    subst e1; subst e2; subst e3; subst e4
    obtain ⟨ag, ag2⟩ := (G.2.2.2.2.2.2.2.2.2.2.2.2 W a s hP hs').2 kn hk
    have hc100 := (hsm s hs').2.2.2.2 kn hk
    rw [ag] at hi' hc100
    have e : rRow a (nI s) (nI kn) (nI i') (nI j') = (0, Int32.ofInt (cmp3 (gt (a.1 s kn) i') j'), a) := by
      unfold rRow
      rw [if_neg (by
        rw [slot_i hs']
        rintro (z | z | z | z)
        · cases z
        · exact nI_nlt (a := i') (b := 0) (by omega) (by omega) z
        · exact nI_nlt (a := j') (b := 0) (by omega) (by omega) z
        · exact nI_nlt (a := 2) (b := j') (by omega) (by omega) z), if_neg (by rw [kd_i hk]; decide), nI_clamp (show s < 2 ^ 31 by omega), nI_clamp (show kn < 2 ^ 31 by omega), if_pos (nI_lt hi' (by omega)), nI_clamp (show i' < 2 ^ 31 by omega), nI_clamp (show j' < 2 ^ 31 by omega)]
    rw [e] at hQ
    have hr' := hr
    rw [ag2 i' hi', Int64.toInt32_ofInt]
    conv => whnf
    refine ⟨_, _, hr'.out, vp_in_nI (n := 0) (by omega) (by omega), ?_⟩
    conv => whnf
    exact hQ _ _ _ hr'.sout hP (fun _ => if_pos rfl)
theorem L_has (G : Good P) (hP : P W a) (hr : RepS W (toM m ++ [oA o]) h) {x : Int32}
    (hQ : ∀ W' o' h', RepS W' (toM m ++ [oA o']) h' → P W' (rHas a x).2.2 → ((rHas a x).1 = 0 → o' 0 = (rHas a x).2.1.toInt64) → Q (.inl (some (.int (nI (rHas a x).1)))) h') : wpC sc (d + 9) 152 [.ref 0, .int x, .ref 72] h Q := by
  obtain ⟨hb, hsm, hdr⟩ := G.1 W a hP
  have hs : W.2.1 ≤ 6 := by rw [hb.2.1]; exact hb.1.2.2
  have hnm : ∀ i, i < 6 → -30 ≤ nm W i ∧ nm W i ≤ 30 := fun i hi => by rw [hb.2.2.1 i hi]; exact hb.1.2.1 i hi
  have ht5 : ∀ i, i < 4 → W.2.2.2.1 i < 5 := fun i hi => (hb.2.2.2.2.1 i hi).1
  have q0 := hb.1.2.1 0 (by omega)
  have n0 := nm_i hb (i := 0) (by omega)
  have pos : (¬ 0 < W.2.2.1 0) ↔ a.2.1 0 ≤ 0 := by rw [n0, Int32.not_lt, i0_le q0]
  have N3b : bdV 30 (N3 W) := ⟨hnm 0 (by omega), hnm 1 (by omega), hnm 2 (by omega)⟩
  refine enter rfl rfl (fun call hc => go hc 6 (fun K hK => ?_))
  conv => whnf
  refine ⟨_, hr.D, Nat.le_of_ble_eq_true rfl, ?_⟩
  conv => whnf
  refine callee hc (s_has hr hs ht5 (fun i hi v hv => dot30 (hv.elim (fun q => (hsm i hi).2.1 v q) (fun q => (hsm i hi).1 v q)) N3b) ?_ ?_ ?_)
  · intro q
    have e : rHas a x = (1, 0, a) := if_pos (slB_f q)
    rw [e] at hQ
    conv => whnf
    refine hK _ _ _ _ _ _ (go hc 2 (fun K hK => ?_))
    conv => whnf
    exact hQ W o h hr hP (fun z => by cases z)
  · intro q q2
    have e : rHas a x = (2, 0, a) := by unfold rHas; rw [if_neg (by rw [slB_t q]; decide), if_pos (by rw [← hb.2.1]; exact q2.imp id pos.mp)]
    rw [e] at hQ
    conv => whnf
    refine hK _ _ _ _ _ _ (go hc 2 (fun K hK => ?_))
    conv => whnf
    exact hQ W o h hr hP (fun z => by cases z)
  · intro i hi he q3 qp h' hr'
    subst he
    have e : rHas a (nI i) = (0, bI01 (hoB a.1 i (num3 a)), s0 a) := by unfold rHas; rw [if_neg (by rw [slot_i hi]; decide), if_neg (by rw [← hb.2.1]; exact fun z => z.elim (fun z => z q3) (fun z => pos.mpr z qp)), nI_clamp (by omega)]
    rw [e] at hQ
    rw [G.2.2.2.2.2.2.2.2.2.2.1 W a i hP hi]
    cases hB : hoB a.1 i (num3 a) with
    | true =>
      rw [hB] at hQ
      conv => whnf
      refine ⟨fun c_ => absurd c_ (by decide), fun c_ => ?_⟩
      conv => whnf
      refine hK _ _ _ _ _ _ (go hc 6 (fun K hK => ?_))
      conv => whnf
      refine ⟨_, _, hr'.out, vp_in_nI (n := 0) (by omega) (by omega), ?_⟩
      conv => whnf
      exact hQ _ _ _ hr'.sout (G.2.2.1 W a hP) (fun _ => if_pos rfl)
    | false =>
      rw [hB] at hQ
      conv => whnf
      refine ⟨fun c_ => ?_, fun c_ => absurd rfl c_⟩
      conv => whnf
      refine hK _ _ _ _ _ _ (go hc 5 (fun K hK => ?_))
      conv => whnf
      refine ⟨_, _, hr'.out, vp_in_nI (n := 0) (by omega) (by omega), ?_⟩
      conv => whnf
      exact hQ _ _ _ hr'.sout (G.2.2.1 W a hP) (fun _ => if_pos rfl)
theorem L_inc (G : Good P) (hP : P W a) (hr : RepS W (toM m ++ [oA o]) h) {x y : Int32}
    (hQ : ∀ W' o' h', RepS W' (toM m ++ [oA o']) h' → P W' (rInc a x y).2.2 → ((rInc a x y).1 = 0 → o' 0 = (rInc a x y).2.1.toInt64) → Q (.inl (some (.int (nI (rInc a x y).1)))) h') : wpC sc (d + 9) 153 [.ref 0, .int x, .int y, .ref 72] h Q := by
  obtain ⟨hb, hsm, hdr⟩ := G.1 W a hP
  have hs : W.2.1 ≤ 6 := by rw [hb.2.1]; exact hb.1.2.2
  have hnm : ∀ i, i < 6 → -30 ≤ nm W i ∧ nm W i ≤ 30 := fun i hi => by rw [hb.2.2.1 i hi]; exact hb.1.2.1 i hi
  have ht5 : ∀ i, i < 4 → W.2.2.2.1 i < 5 := fun i hi => (hb.2.2.2.2.1 i hi).1
  refine enter rfl rfl (fun call hc => go hc 7 (fun K hK => ?_))
  conv => whnf
  refine ⟨_, hr.D, Nat.le_of_ble_eq_true rfl, ?_⟩
  conv => whnf
  refine callee hc (s_includes hr ht5 (fun i k hi hk v hv => ⟨fun u hu => dot30 ((hsm i hi).2.1 u hu) (hv.elim (fun q => (hsm k hk).2.2.2.1 v q) (fun q => (hsm k hk).2.2.1 v q)), fun u hu => dot30 ((hsm i hi).1 u hu) (hv.elim (fun q => (hsm k hk).2.2.2.1 v q) (fun q => (hsm k hk).2.2.1 v q))⟩) ?_ ?_)
  · intro q
    have e : rInc a x y = (1, 0, a) := if_pos (by rcases q with q | q; exact Or.inl (slB_f q); exact Or.inr (slB_f q))
    rw [e] at hQ
    conv => whnf
    refine hK _ _ _ _ _ _ (go hc 2 (fun K hK => ?_))
    conv => whnf
    exact hQ W o h hr hP (fun z => by cases z)
  · intro i k hi hk e1 e2
    subst e1; subst e2
    have e : rInc a (nI i) (nI k) = (0, bI01 ((agL [] (gnL a.1 k)).all (hoB a.1 i)), a) := by unfold rInc; rw [if_neg (by rw [slot_i hi, slot_i hk]; decide), nI_clamp (by omega), nI_clamp (by omega)]
    rw [e] at hQ
    have hr' := hr
    rw [G.2.2.2.2.2.2.2.2.2.2.2.1 W a i k hP hi hk]
    cases hB : (agL [] (gnL a.1 k)).all (hoB a.1 i) with
    | true =>
      rw [hB] at hQ
      conv => whnf
      refine ⟨fun c_ => absurd c_ (by decide), fun c_ => ?_⟩
      conv => whnf
      refine hK _ _ _ _ _ _ (go hc 6 (fun K hK => ?_))
      conv => whnf
      refine ⟨_, _, hr'.out, vp_in_nI (n := 0) (by omega) (by omega), ?_⟩
      conv => whnf
      exact hQ _ _ _ hr'.sout hP (fun _ => if_pos rfl)
    | false =>
      rw [hB] at hQ
      conv => whnf
      refine ⟨fun c_ => ?_, fun c_ => absurd rfl c_⟩
      conv => whnf
      refine hK _ _ _ _ _ _ (go hc 5 (fun K hK => ?_))
      conv => whnf
      refine ⟨_, _, hr'.out, vp_in_nI (n := 0) (by omega) (by omega), ?_⟩
      conv => whnf
      exact hQ _ _ _ hr'.sout hP (fun _ => if_pos rfl)
end LAWH2
