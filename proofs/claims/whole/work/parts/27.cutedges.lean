/-! cutting edges -/
def nxE (n i : Nat) : Nat := if i + 1 < n then i + 1 else 0
def sdE (n i : Nat) : Bool := decide (0 < nxE n i ∨ 2 < n)
def crs (x y : Int) : Bool := decide ((x < 0 ∧ 0 < y) ∨ (0 < x ∧ y < 0))
def abI (x : Int) : Int := (x.natAbs : Int)
theorem oI_Abs {x : Int} (h : inL x) : (if 0 < Int64.ofInt x then Int64.ofInt x else -Int64.ofInt x) = Int64.ofInt (abI x) := by
  unfold abI
  rw [oI_0]
  by_cases h1 : 0 < x
  · rw [if_pos ((oI_lt inL_0 h).mpr h1)]; congr 1; omega
  · rw [if_neg (fun q => h1 ((oI_lt inL_0 h).mp q)), ← Int64.ofInt_neg]; congr 1; omega
/-- the new edge between two -/
def crV (v u a : V3) : V3 := mixV (abI (dot u a)) (abI (dot v a)) v u
def ce1 (v a : V3) : List V3 := if 0 ≤ dot v a then [v] else []
def ce2 (b : Bool) (v u a : V3) : List V3 := if (b && crs (dot v a) (dot u a)) = true then [crV v u a] else []
/-- what comes of edge i -/
def ceF (E : List V3) (a : V3) (i : Nat) : List V3 := ce1 (gt E i) a ++ ce2 (sdE E.length i) (gt E i) (gt E (nxE E.length i)) a
def ceA (E : List V3) (a : V3) (n : Nat) : List V3 := (List.range n).flatMap (ceF E a)
theorem ceA_succ (E : List V3) (a : V3) (n : Nat) : ceA E a (n + 1) = ceA E a n ++ ceF E a n := by
  unfold ceA
  rw [List.range_succ, List.flatMap_append, List.flatMap_singleton]
theorem ceA_le (E : List V3) (a : V3) {n m : Nat} (h : n ≤ m) : (ceA E a n).length ≤ (ceA E a m).length := by
  induction m with
  | zero => rw [show n = 0 by omega]; exact Nat.le_refl _
  | succ m ih =>
    by_cases h1 : n = m + 1
    · rw [h1]; exact Nat.le_refl _
    · rw [ceA_succ, List.length_append]
      have := ih (by omega)
      omega
section CUTEDGES
variable {sc : Scr} {d : Nat} {W : AW} {X h : PH} {c : Nat} {Q : Out → PH → Prop}
/-- the edges' row and the scratch -/
theorem scE {W : AW} {c : Nat} (hc0 : c < 10) {S : List V3} : (sl W 20 S).1 (2 * c + 1) = W.1 (2 * c + 1) := sl_ne _ _ (by omega)
theorem ce_170 {call : Callee} (hc : call = wpC sc (d + 2)) (hc0 : c < 10) {i nx : Nat} {a : V3} {S : List V3} {sd : Int32} (hr : Rep (sl W 20 S) X h) (hi : i < (W.1 (2 * c + 1)).length) (hn : nx < (W.1 (2 * c + 1)).length) (hS : S.length < 48)
    (hx : inL (dot (gt (W.1 (2 * c + 1)) i) a)) (hy : inL (dot (gt (W.1 (2 * c + 1)) nx) a))
    (hm : inV (lin (abI (dot (gt (W.1 (2 * c + 1)) nx) a)) (abI (dot (gt (W.1 (2 * c + 1)) i) a)) (gt (W.1 (2 * c + 1)) i) (gt (W.1 (2 * c + 1)) nx)))
    (hQ : ∀ h, Rep (sl W 20 (S ++ [crV (gt (W.1 (2 * c + 1)) i) (gt (W.1 (2 * c + 1)) nx) a])) X h → Runs (d + 2) call sc m_X0_cutEdges Q 19 [(0, .ref (cid c)), (1, .long (Int64.ofInt a.1)), (3, .long (Int64.ofInt a.2.1)), (5, .long (Int64.ofInt a.2.2)), (7, .int (nI (W.1 (2 * c + 1)).length)), (8, .int (nI (i + 1)))] [] h 0 0) :
    Runs (d + 2) call sc m_X0_cutEdges Q 170 [(0, .ref (cid c)), (1, .long (Int64.ofInt a.1)), (3, .long (Int64.ofInt a.2.1)), (5, .long (Int64.ofInt a.2.2)), (7, .int (nI (W.1 (2 * c + 1)).length)), (8, .int (nI i)), (9, .int (nI nx)), (10, .long (Int64.ofInt (dot (gt (W.1 (2 * c + 1)) i) a))), (12, .long (Int64.ofInt (dot (gt (W.1 (2 * c + 1)) nx) a))), (14, .int sd)] [] h 0 0 := by
  have e1 : ∀ S, (sl W 20 S).1 (2 * c + 1) = W.1 (2 * c + 1) := fun S => scE hc0
  have e2 : ∀ S, (sl W 20 S).1 20 = S := fun S => sl_self _ _ _
  have hil : ∀ S, i < ((sl W 20 S).1 (2 * c + 1)).length := fun S => by rw [e1]; exact hi
  have hg : gt (S ++ [gt (W.1 (2 * c + 1)) i]) S.length = gt (W.1 (2 * c + 1)) i := gt_of (by rw [List.getElem?_append_right (Nat.le_refl _), Nat.sub_self]; rfl)
  refine go hc 35 (fun K hK => ?_)
  conv => whnf
  refine ⟨_, _, hr.C _ (by omega), rfl, ?_⟩
  conv => whnf
  refine ⟨_, _, hr.C _ (by omega), rfl, ?_⟩
  conv => whnf
  refine ⟨_, hr.R _ (by omega), Nat.le_of_ble_eq_true rfl, ?_⟩
  conv => whnf
  refine callee hc (r_at0 hr (by omega) (hil _) ?_)
  rw [e1]
  conv => whnf
  refine ⟨_, _, hr.C _ (by omega), rfl, ?_⟩
  conv => whnf
  refine ⟨_, hr.R _ (by omega), Nat.le_of_ble_eq_true rfl, ?_⟩
  conv => whnf
  refine callee hc (r_at1 hr (by omega) (hil _) ?_)
  rw [e1]
  conv => whnf
  refine ⟨_, _, hr.C _ (by omega), rfl, ?_⟩
  conv => whnf
  refine ⟨_, hr.R _ (by omega), Nat.le_of_ble_eq_true rfl, ?_⟩
  conv => whnf
  refine callee hc (r_at2 hr (by omega) (hil _) ?_)
  rw [e1]
  conv => whnf
  refine ⟨_, hr.R _ (by omega), Nat.le_of_ble_eq_true rfl, ?_⟩
  conv => whnf
  refine callee hc (r_add hr (gt (W.1 (2 * c + 1)) i) (by omega) (by rw [e2, cap_s]; exact hS) rfl rfl rfl ?_)
  intro h hr
  rw [e2, sl_sl] at hr
  conv => whnf
  refine ⟨_, _, hr.C _ (by omega), rfl, ?_⟩
  conv => whnf
  refine ⟨_, _, hr.C _ (by omega), rfl, ?_⟩
  conv => whnf
  refine ⟨_, hr.R _ (by omega), Nat.le_of_ble_eq_true rfl, ?_⟩
  conv => whnf
  refine callee hc (r_count hr (by omega) ?_)
  rw [e2, List.length_append, List.length_singleton]
  conv => whnf
  rw [nI_pred]
  conv => whnf
  refine ⟨Nat.le_of_ble_eq_true rfl, ?_⟩
  conv => whnf
  refine ⟨Nat.le_of_ble_eq_true rfl, ?_⟩
  conv => whnf
  refine ⟨_, _, hr.C _ (by omega), rfl, ?_⟩
  conv => whnf
  refine ⟨_, hr.R _ (by omega), Nat.le_of_ble_eq_true rfl, ?_⟩
  conv => whnf
  rw [oI_Abs hx, oI_Abs hy]
  refine callee hc (r_mix hr (by omega) (by rw [e2, List.length_append, List.length_singleton]; omega) (by omega) (by rw [e1]; exact hn) rfl rfl (by rw [e1, e2, hg]; exact hm) ?_)
  intro h hr
  rw [e2, e1, sl_sl, hg, List.set_append_right _ _ (Nat.le_refl _), Nat.sub_self, List.set_cons_zero] at hr
  conv => whnf
  try simp only [nI_1]
  refine hK _ _ _ _ _ _ (Runs.less hc [0, 1, 3, 5, 7, 8] rfl rfl rfl rfl (hQ h hr))
theorem ce_239 {call : Callee} (hc : call = wpC sc (d + 2)) {i nx n : Nat} {a1 a2 a3 x y : Int64} {sd : Int32}
    (hQ : Runs (d + 2) call sc m_X0_cutEdges Q 19 [(0, .ref (cid c)), (1, .long a1), (3, .long a2), (5, .long a3), (7, .int (nI n)), (8, .int (nI (i + 1)))] [] h 0 0) :
    Runs (d + 2) call sc m_X0_cutEdges Q 239 [(0, .ref (cid c)), (1, .long a1), (3, .long a2), (5, .long a3), (7, .int (nI n)), (8, .int (nI i)), (9, .int (nI nx)), (10, .long x), (12, .long y), (14, .int sd)] [] h 0 0 := by
  refine go hc 2 (fun K hK => ?_)
  conv => whnf
  try simp only [nI_1]
  refine hK _ _ _ _ _ _ (Runs.less hc [0, 1, 3, 5, 7, 8] rfl rfl rfl rfl hQ)
theorem ce_137 {call : Callee} (hc : call = wpC sc (d + 2)) (hc0 : c < 10) {i nx : Nat} {a : V3} {S : List V3} {sd : Bool} (hr : Rep (sl W 20 S) X h) (hi : i < (W.1 (2 * c + 1)).length) (hn : nx < (W.1 (2 * c + 1)).length) (hS : (S ++ ce2 sd (gt (W.1 (2 * c + 1)) i) (gt (W.1 (2 * c + 1)) nx) a).length ≤ 48)
    (hx : inL (dot (gt (W.1 (2 * c + 1)) i) a)) (hy : inL (dot (gt (W.1 (2 * c + 1)) nx) a))
    (hm : inV (lin (abI (dot (gt (W.1 (2 * c + 1)) nx) a)) (abI (dot (gt (W.1 (2 * c + 1)) i) a)) (gt (W.1 (2 * c + 1)) i) (gt (W.1 (2 * c + 1)) nx)))
    (hQ : ∀ h, Rep (sl W 20 (S ++ ce2 sd (gt (W.1 (2 * c + 1)) i) (gt (W.1 (2 * c + 1)) nx) a)) X h → Runs (d + 2) call sc m_X0_cutEdges Q 19 [(0, .ref (cid c)), (1, .long (Int64.ofInt a.1)), (3, .long (Int64.ofInt a.2.1)), (5, .long (Int64.ofInt a.2.2)), (7, .int (nI (W.1 (2 * c + 1)).length)), (8, .int (nI (i + 1)))] [] h 0 0) :
    Runs (d + 2) call sc m_X0_cutEdges Q 137 [(0, .ref (cid c)), (1, .long (Int64.ofInt a.1)), (3, .long (Int64.ofInt a.2.1)), (5, .long (Int64.ofInt a.2.2)), (7, .int (nI (W.1 (2 * c + 1)).length)), (8, .int (nI i)), (9, .int (nI nx)), (10, .long (Int64.ofInt (dot (gt (W.1 (2 * c + 1)) i) a))), (12, .long (Int64.ofInt (dot (gt (W.1 (2 * c + 1)) nx) a))), (14, .int (bI01 sd))] [] h 0 0 := by
  have hno : (sd && crs (dot (gt (W.1 (2 * c + 1)) i) a) (dot (gt (W.1 (2 * c + 1)) nx) a)) = false → Runs (d + 2) call sc m_X0_cutEdges Q 239 [(0, .ref (cid c)), (1, .long (Int64.ofInt a.1)), (3, .long (Int64.ofInt a.2.1)), (5, .long (Int64.ofInt a.2.2)), (7, .int (nI (W.1 (2 * c + 1)).length)), (8, .int (nI i)), (9, .int (nI nx)), (10, .long (Int64.ofInt (dot (gt (W.1 (2 * c + 1)) i) a))), (12, .long (Int64.ofInt (dot (gt (W.1 (2 * c + 1)) nx) a))), (14, .int (bI01 sd))] [] h 0 0 := fun q => ce_239 hc (hQ h (by unfold ce2; rw [q, if_neg (by decide), List.append_nil]; exact hr))
  have hyes : (sd && crs (dot (gt (W.1 (2 * c + 1)) i) a) (dot (gt (W.1 (2 * c + 1)) nx) a)) = true → Runs (d + 2) call sc m_X0_cutEdges Q 170 [(0, .ref (cid c)), (1, .long (Int64.ofInt a.1)), (3, .long (Int64.ofInt a.2.1)), (5, .long (Int64.ofInt a.2.2)), (7, .int (nI (W.1 (2 * c + 1)).length)), (8, .int (nI i)), (9, .int (nI nx)), (10, .long (Int64.ofInt (dot (gt (W.1 (2 * c + 1)) i) a))), (12, .long (Int64.ofInt (dot (gt (W.1 (2 * c + 1)) nx) a))), (14, .int (bI01 sd))] [] h 0 0 := fun q => ce_170 hc hc0 hr hi hn (by unfold ce2 at hS; rw [if_pos q, List.length_append, List.length_singleton] at hS; omega) hx hy hm (fun h hr => hQ h (by unfold ce2; rw [if_pos q]; exact hr))
  refine go hc 2 (fun K hK => ?_)
  conv => whnf
  cases sd with
  | false =>
    refine ⟨fun c_ => ?_, fun c_ => absurd (rfl) c_⟩
    conv => whnf
    try simp only [nI_1]
    refine hK _ _ _ _ _ _ (Runs.less hc [0, 1, 3, 5, 7, 8, 9, 10, 12, 14] rfl rfl rfl rfl (hno rfl))
  | true =>
    refine ⟨fun c_ => absurd c_ (by decide), fun c_ => ?_⟩
    conv => whnf
    refine hK _ _ _ _ _ _ (go hc 4 (fun K hK => ?_))
    conv => whnf
    generalize dot (gt (W.1 (2 * c + 1)) i) a = x at *
    generalize dot (gt (W.1 (2 * c + 1)) nx) a = y at *
    by_cases h1 : 0 ≤ x
    · refine ⟨fun c_ => ?_, fun c_ => absurd ((kGe0 hx).mpr h1) c_⟩
      conv => whnf
      refine hK _ _ _ _ _ _ (go hc 4 (fun K hK => ?_))
      conv => whnf
      by_cases h2 : x ≤ 0
      · refine ⟨fun c_ => ?_, fun c_ => absurd ((kLe0 hx).mpr h2) c_⟩
        conv => whnf
        try simp only [nI_1]
        refine hK _ _ _ _ _ _ (Runs.less hc [0, 1, 3, 5, 7, 8, 9, 10, 12, 14] rfl rfl rfl rfl (hno (by unfold crs; rw [Bool.true_and]; exact decide_eq_false (by omega))))
      · refine ⟨fun c_ => absurd c_ (fun q => h2 ((kLe0 hx).mp q)), fun c_ => ?_⟩
        conv => whnf
        refine hK _ _ _ _ _ _ (go hc 4 (fun K hK => ?_))
        conv => whnf
        by_cases h3 : 0 ≤ y
        · refine ⟨fun c_ => ?_, fun c_ => absurd ((kGe0 hy).mpr h3) c_⟩
          conv => whnf
          try simp only [nI_1]
          refine hK _ _ _ _ _ _ (Runs.less hc [0, 1, 3, 5, 7, 8, 9, 10, 12, 14] rfl rfl rfl rfl (hno (by unfold crs; rw [Bool.true_and]; exact decide_eq_false (by omega))))
        · refine ⟨fun c_ => absurd c_ (fun q => h3 ((kGe0 hy).mp q)), fun c_ => ?_⟩
          conv => whnf
          try simp only [nI_1]
          refine hK _ _ _ _ _ _ (Runs.less hc [0, 1, 3, 5, 7, 8, 9, 10, 12, 14] rfl rfl rfl rfl (hyes (by unfold crs; rw [Bool.true_and]; exact decide_eq_true (by omega))))
    · refine ⟨fun c_ => absurd c_ (fun q => h1 ((kGe0 hx).mp q)), fun c_ => ?_⟩
      conv => whnf
      refine hK _ _ _ _ _ _ (go hc 4 (fun K hK => ?_))
      conv => whnf
      by_cases h3 : 0 < y
      · refine ⟨fun c_ => ?_, fun c_ => absurd ((kGt0 hy).mpr h3) c_⟩
        conv => whnf
        try simp only [nI_1]
        refine hK _ _ _ _ _ _ (Runs.less hc [0, 1, 3, 5, 7, 8, 9, 10, 12, 14] rfl rfl rfl rfl (hyes (by unfold crs; rw [Bool.true_and]; exact decide_eq_true (by omega))))
      · refine ⟨fun c_ => absurd c_ (fun q => h3 ((kGt0 hy).mp q)), fun c_ => ?_⟩
        conv => whnf
        refine hK _ _ _ _ _ _ (go hc 4 (fun K hK => ?_))
        conv => whnf
        refine ⟨fun c_ => ?_, fun c_ => absurd ((kLe0 hx).mpr (by omega)) c_⟩
        conv => whnf
        try simp only [nI_1]
        refine hK _ _ _ _ _ _ (Runs.less hc [0, 1, 3, 5, 7, 8, 9, 10, 12, 14] rfl rfl rfl rfl (hno (by unfold crs; rw [Bool.true_and]; exact decide_eq_false (by omega))))
theorem ce_119 {call : Callee} (hc : call = wpC sc (d + 2)) (hc0 : c < 10) {i nx : Nat} {a : V3} {S : List V3} (hr : Rep (sl W 20 S) X h) (hi : i < (W.1 (2 * c + 1)).length) (hn : nx < (W.1 (2 * c + 1)).length) (hl48 : (W.1 (2 * c + 1)).length ≤ 48) (hS : (S ++ ce2 (decide (0 < nx ∨ 2 < (W.1 (2 * c + 1)).length)) (gt (W.1 (2 * c + 1)) i) (gt (W.1 (2 * c + 1)) nx) a).length ≤ 48)
    (hx : inL (dot (gt (W.1 (2 * c + 1)) i) a)) (hy : inL (dot (gt (W.1 (2 * c + 1)) nx) a))
    (hm : inV (lin (abI (dot (gt (W.1 (2 * c + 1)) nx) a)) (abI (dot (gt (W.1 (2 * c + 1)) i) a)) (gt (W.1 (2 * c + 1)) i) (gt (W.1 (2 * c + 1)) nx)))
    (hQ : ∀ h, Rep (sl W 20 (S ++ ce2 (decide (0 < nx ∨ 2 < (W.1 (2 * c + 1)).length)) (gt (W.1 (2 * c + 1)) i) (gt (W.1 (2 * c + 1)) nx) a)) X h → Runs (d + 2) call sc m_X0_cutEdges Q 19 [(0, .ref (cid c)), (1, .long (Int64.ofInt a.1)), (3, .long (Int64.ofInt a.2.1)), (5, .long (Int64.ofInt a.2.2)), (7, .int (nI (W.1 (2 * c + 1)).length)), (8, .int (nI (i + 1)))] [] h 0 0) :
    Runs (d + 2) call sc m_X0_cutEdges Q 119 [(0, .ref (cid c)), (1, .long (Int64.ofInt a.1)), (3, .long (Int64.ofInt a.2.1)), (5, .long (Int64.ofInt a.2.2)), (7, .int (nI (W.1 (2 * c + 1)).length)), (8, .int (nI i)), (9, .int (nI nx)), (10, .long (Int64.ofInt (dot (gt (W.1 (2 * c + 1)) i) a))), (12, .long (Int64.ofInt (dot (gt (W.1 (2 * c + 1)) nx) a)))] [] h 0 0 := by
  have hk : ∀ b, b = decide (0 < nx ∨ 2 < (W.1 (2 * c + 1)).length) → Runs (d + 2) call sc m_X0_cutEdges Q 137 [(0, .ref (cid c)), (1, .long (Int64.ofInt a.1)), (3, .long (Int64.ofInt a.2.1)), (5, .long (Int64.ofInt a.2.2)), (7, .int (nI (W.1 (2 * c + 1)).length)), (8, .int (nI i)), (9, .int (nI nx)), (10, .long (Int64.ofInt (dot (gt (W.1 (2 * c + 1)) i) a))), (12, .long (Int64.ofInt (dot (gt (W.1 (2 * c + 1)) nx) a))), (14, .int (bI01 b))] [] h 0 0 := fun b hb => by
    subst hb
    exact ce_137 hc hc0 hr hi hn hS hx hy hm hQ
  refine go hc 2 (fun K hK => ?_)
  conv => whnf
  by_cases h1 : 0 < nx
  · refine ⟨fun c_ => ?_, fun c_ => absurd (nI_lt (a := 0) h1 (by omega)) c_⟩
    conv => whnf
    refine hK _ _ _ _ _ _ (go hc 3 (fun K hK => ?_))
    conv => whnf
    try simp only [nI_1]
    refine hK _ _ _ _ _ _ (Runs.less hc [0, 1, 3, 5, 7, 8, 9, 10, 12, 14] rfl rfl rfl rfl (hk true (decide_eq_true (Or.inl h1)).symm))
  · refine ⟨fun c_ => absurd c_ (nI_nlt (b := nx) (a := 0) (by omega) (by omega)), fun c_ => ?_⟩
    conv => whnf
    refine hK _ _ _ _ _ _ (go hc 3 (fun K hK => ?_))
    conv => whnf
    by_cases h2 : 2 < (W.1 (2 * c + 1)).length
    · refine ⟨fun c_ => absurd c_ (nI_ge (a := 2) h2 (by omega)), fun c_ => ?_⟩
      conv => whnf
      refine hK _ _ _ _ _ _ (go hc 3 (fun K hK => ?_))
      conv => whnf
      try simp only [nI_1]
      refine hK _ _ _ _ _ _ (Runs.less hc [0, 1, 3, 5, 7, 8, 9, 10, 12, 14] rfl rfl rfl rfl (hk true (decide_eq_true (Or.inr h2)).symm))
    · refine ⟨fun c_ => ?_, fun c_ => absurd (nI_le (b := 2) (by omega) (by omega)) c_⟩
      conv => whnf
      refine hK _ _ _ _ _ _ (go hc 2 (fun K hK => ?_))
      conv => whnf
      try simp only [nI_1]
      refine hK _ _ _ _ _ _ (Runs.less hc [0, 1, 3, 5, 7, 8, 9, 10, 12, 14] rfl rfl rfl rfl (hk false (decide_eq_false (by omega)).symm))
end CUTEDGES
