/-! maximum -/
def kgF (a b : Int) (s : Int × Int) (v : V3) : Int × Int := if 0 < v.1 ∧ (s.2 = 0 ∨ s.1 * v.1 < dot v (0, a, b) * s.2) then (dot v (0, a, b), v.1) else s
def kgA (a b : Int) (E : List V3) : Int × Int := E.foldl (kgF a b) (0, 0)
def kgD (s : Int × Int) : Nat := Nat.gcd s.1.natAbs s.2.natAbs
def setTB (W : AW) (s : Int × Int) : AW := if kgD s = 0 then W else (W.1, W.2.1, W.2.2.1, W.2.2.2.1, W.2.2.2.2.1, W.2.2.2.2.2.1, (Int64.ofInt (s.1.tdiv (kgD s : Int))).toInt32, (Int64.ofInt (s.2.tdiv (kgD s : Int))).toInt32)
theorem kgF_bd {a b : Int} {s : Int × Int} {v : V3} (hd : bdI 1800 (dot v (0, a, b))) (hv : bdI 30 v.1) (hs : bdI 1800 s.1 ∧ bdI 30 s.2) : bdI 1800 (kgF a b s v).1 ∧ bdI 30 (kgF a b s v).2 := by
  unfold kgF
  split
  · exact ⟨hd, hv⟩
  · exact hs
section MAXI
variable {sc : Scr} {d : Nat} {W : AW} {X h : PH} {Q : Out → PH → Prop}
theorem kg_loop {call : Callee} (hc : call = wpC sc (d + 2)) (hr : RepS W X h) {j : Nat} {a b : Int} (hj : j < 20) (hb : ∀ v ∈ W.1 j, bdI 1800 (dot v (0, a, b)) ∧ bdI 30 v.1)
    (hQ : ∀ h, RepS (setTB W (kgA a b (W.1 j))) X h → Q (.inl none) h) :
    ∀ (n i : Nat) (s : Int × Int), i + n = (W.1 j).length → bdI 1800 s.1 ∧ bdI 30 s.2 → ((W.1 j).drop i).foldl (kgF a b) s = kgA a b (W.1 j) →
    Runs (d + 2) call sc m_X3_keepGreatest Q 9 [(0, .ref 0), (1, .ref (rid j)), (2, .long (Int64.ofInt a)), (4, .long (Int64.ofInt b)), (6, .long (Int64.ofInt s.1)), (8, .long (Int64.ofInt s.2)), (10, .int (nI i))] [] h 0 0 := by
  have hl48 := hr.c48 hj
  intro n
  induction n with
  | zero =>
    intro i s hi hs hF
    rw [List.drop_eq_nil_of_le (by omega)] at hF
    have hF : s = kgA a b (W.1 j) := hF
    rw [← hF] at hQ
    have l1 := hs.1.inL (by decide)
    have l2 := hs.2.inL (by decide)
    have hg := gcd_inL l1 l2
    refine go hc 4 (fun K hK => ?_)
    conv => whnf
    refine ⟨_, hr.R _ (by omega), Nat.le_of_ble_eq_true rfl, ?_⟩
    conv => whnf
    refine callee hc (s_count hr (by omega) ?_)
    conv => whnf
    refine ⟨fun c_ => ?_, fun c_ => absurd (nI_le (by omega) (by omega)) c_⟩
    conv => whnf
    refine hK _ _ _ _ _ _ (go hc 8 (fun K hK => ?_))
    conv => whnf
    refine ⟨Nat.le_of_ble_eq_true rfl, ?_⟩
    conv => whnf
    refine callee hc (r_gcd l1 l2 ?_)
    conv => whnf
    unfold setTB at hQ
    by_cases c1 : kgD s = 0
    · rw [if_pos c1] at hQ
      refine ⟨fun c_ => ?_, fun c_ => absurd ((kLe0 hg).mpr (by unfold kgD at c1; omega)) c_⟩
      conv => whnf
      refine hK _ _ _ _ _ _ (go hc 1 (fun K hK => ?_))
      conv => whnf
      exact hQ h hr
    · rw [if_neg c1] at hQ
      have hz : ¬ Int64.ofInt ((Nat.gcd s.1.natAbs s.2.natAbs : Nat) : Int) = 0 := fun q => c1 (by have := (oI_eq hg inL_0).mp q; unfold kgD; omega)
      refine ⟨fun c_ => absurd c_ (fun q => c1 (by have := (kLe0 hg).mp q; unfold kgD; omega)), fun c_ => ?_⟩
      conv => whnf
      refine hK _ _ _ _ _ _ (go hc 13 (fun K hK => ?_))
      conv => whnf
      refine ⟨hz, ?_⟩
      rw [oI_div l1 hg]
      conv => whnf
      refine ⟨_, hr.D, Nat.le_of_ble_eq_true rfl, ?_⟩
      replace hr := hr.top (Int64.ofInt (s.1.tdiv (kgD s : Int))).toInt32
      conv => whnf
      refine ⟨hz, ?_⟩
      rw [oI_div l2 hg]
      conv => whnf
      refine ⟨_, hr.D, Nat.le_of_ble_eq_true rfl, ?_⟩
      replace hr := hr.bot (Int64.ofInt (s.2.tdiv (kgD s : Int))).toInt32
      conv => whnf
      exact hQ _ hr
  | succ n ih =>
    intro i s hi hs hF
    have hil : i < (W.1 j).length := by omega
    obtain ⟨b1, b2⟩ := hb _ (gt_mem hil)
    rw [drop_gt hil, List.foldl_cons] at hF
    have hbn := kgF_bd b1 b2 hs
    generalize hv : gt (W.1 j) i = v at *
    have q1 := b2.inL (by decide)
    have q2 := hs.2.inL (by decide)
    have m1 : inL (dot v (0, a, b) * s.2) := by have := mulB b1 hs.2; constructor <;> omega
    have m2 : inL (s.1 * v.1) := by have := mulB hs.1 b2; constructor <;> omega
    have hno : kgF a b s v = s → Runs (d + 2) call sc m_X3_keepGreatest Q 75 [(0, .ref 0), (1, .ref (rid j)), (2, .long (Int64.ofInt a)), (4, .long (Int64.ofInt b)), (6, .long (Int64.ofInt s.1)), (8, .long (Int64.ofInt s.2)), (10, .int (nI i))] [] h 0 0 := fun q => by
      rw [q] at hF
      refine go hc 2 (fun K hK => ?_)
      conv => whnf
      try simp only [nI_1]
      refine hK _ _ _ _ _ _ (Runs.less hc [0, 1, 2, 4, 6, 8, 10] rfl rfl rfl rfl (ih _ s (by omega) hs hF))
    have hyes : kgF a b s v = (dot v (0, a, b), v.1) → Runs (d + 2) call sc m_X3_keepGreatest Q 67 [(0, .ref 0), (1, .ref (rid j)), (2, .long (Int64.ofInt a)), (4, .long (Int64.ofInt b)), (6, .long (Int64.ofInt s.1)), (8, .long (Int64.ofInt s.2)), (10, .int (nI i)), (11, .long (Int64.ofInt v.1)), (13, .long (Int64.ofInt (dot v (0, a, b))))] [] h 0 0 := fun q => by
      rw [q] at hF
      refine go hc 4 (fun K hK => ?_)
      conv => whnf
      refine hK _ _ _ _ _ _ ?_
      refine go hc 2 (fun K hK => ?_)
      conv => whnf
      try simp only [nI_1]
      refine hK _ _ _ _ _ _ (Runs.less hc [0, 1, 2, 4, 6, 8, 10] rfl rfl rfl rfl (ih _ (dot v (0, a, b), v.1) (by omega) ⟨b1, b2⟩ hF))
    refine go hc 4 (fun K hK => ?_)
    conv => whnf
    refine ⟨_, hr.R _ (by omega), Nat.le_of_ble_eq_true rfl, ?_⟩
    conv => whnf
    refine callee hc (s_count hr (by omega) ?_)
    conv => whnf
    refine ⟨fun c_ => absurd c_ (nI_ge hil (by omega)), fun c_ => ?_⟩
    conv => whnf
    refine hK _ _ _ _ _ _ (go hc 16 (fun K hK => ?_))
    conv => whnf
    refine ⟨_, hr.R _ (by omega), Nat.le_of_ble_eq_true rfl, ?_⟩
    conv => whnf
    refine callee hc (s_at0 hr hj hil ?_)
    rw [hv]
    conv => whnf
    refine ⟨_, hr.R _ (by omega), Nat.le_of_ble_eq_true rfl, ?_⟩
    conv => whnf
    refine callee hc (s_product hr (0, a, b) hj hil rfl rfl rfl ?_)
    rw [hv]
    conv => whnf
    by_cases c1 : 0 < v.1
    · refine ⟨fun c_ => absurd c_ (fun q => by have := (kLe0 q1).mp q; omega), fun c_ => ?_⟩
      conv => whnf
      refine hK _ _ _ _ _ _ (go hc 4 (fun K hK => ?_))
      conv => whnf
      by_cases c2 : s.2 = 0
      · refine ⟨fun c_ => ?_, fun c_ => absurd ((kEq0 q2).mpr c2) c_⟩
        conv => whnf
        try simp only [nI_1]
        refine hK _ _ _ _ _ _ (Runs.less hc [0, 1, 2, 4, 6, 8, 10, 11, 13] rfl rfl rfl rfl (hyes (by unfold kgF; rw [if_pos ⟨c1, Or.inl c2⟩])))
      · refine ⟨fun c_ => absurd c_ (fun q => c2 ((kEq0 q2).mp q)), fun c_ => ?_⟩
        conv => whnf
        refine hK _ _ _ _ _ _ (go hc 8 (fun K hK => ?_))
        conv => whnf
        rw [← Int64.ofInt_mul, ← Int64.ofInt_mul]
        by_cases c3 : s.1 * v.1 < dot v (0, a, b) * s.2
        · refine ⟨fun c_ => absurd c_ (fun q => by have := (kLe m1 m2).mp q; omega), fun c_ => ?_⟩
          conv => whnf
          try simp only [nI_1]
          refine hK _ _ _ _ _ _ (Runs.less hc [0, 1, 2, 4, 6, 8, 10, 11, 13] rfl rfl rfl rfl (hyes (by unfold kgF; rw [if_pos ⟨c1, Or.inr c3⟩])))
        · refine ⟨fun c_ => ?_, fun c_ => absurd ((kLe m1 m2).mpr (by omega)) c_⟩
          conv => whnf
          try simp only [nI_1]
          refine hK _ _ _ _ _ _ (Runs.less hc [0, 1, 2, 4, 6, 8, 10] rfl rfl rfl rfl (hno (by unfold kgF; rw [if_neg (fun q => q.2.elim c2 c3)])))
    · refine ⟨fun c_ => ?_, fun c_ => absurd ((kLe0 q1).mpr (by omega)) c_⟩
      conv => whnf
      try simp only [nI_1]
      refine hK _ _ _ _ _ _ (Runs.less hc [0, 1, 2, 4, 6, 8, 10] rfl rfl rfl rfl (hno (by unfold kgF; rw [if_neg (fun q => c1 q.1)])))
theorem s_keepGreatest (hr : RepS W X h) {j : Nat} {a b : Int} {a' b' : Int64} (ha : a' = Int64.ofInt a) (hb' : b' = Int64.ofInt b) (hj : j < 20) (hb : ∀ v ∈ W.1 j, bdI 1800 (dot v (0, a, b)) ∧ bdI 30 v.1)
    (hQ : ∀ h, RepS (setTB W (kgA a b (W.1 j))) X h → Q (.inl none) h) : wpC sc (d + 3) 72 [.ref 0, .ref (rid j), .long a', .long b'] h Q := by
  subst ha; subst hb'
  refine enter rfl rfl (fun call hc => go hc 6 (fun K hK => ?_))
  conv => whnf
  try simp only [nI_1]
  refine hK _ _ _ _ _ _ (Runs.less hc [0, 1, 2, 4, 6, 8, 10] rfl rfl rfl rfl (kg_loop (Q := qth _ Q) hc hr hj hb hQ (W.1 j).length 0 (0, 0) (by omega) ⟨⟨by decide, by decide⟩, ⟨by decide, by decide⟩⟩ rfl))
def setLat (W : AW) (x : Int32) : AW := (W.1, W.2.1, W.2.2.1, W.2.2.2.1, W.2.2.2.2.1, x, W.2.2.2.2.2.2)
def set0 (W : AW) : AW := (W.1, 0, W.2.2)
/-- what maximum answers -/
def mxV (W : AW) (t : Nat) : Int32 := if (gS W t).2.2 = [] then 0 else if climB (gS W t) (nm W 0) (nm W 1) = true then 1 else 2
def mxW (W : AW) (t : Nat) : AW := if (gS W t).2.2 = [] then setLat W 0 else if climB (gS W t) (nm W 0) (nm W 1) = true then setLat W 1 else setTB (setLat W 2) (kgA (nm W 0) (nm W 1) (gS W t).2.2)
theorem setTB_lat (W : AW) (s : Int × Int) : (setTB W s).2.2.2.2.2.1 = W.2.2.2.2.2.1 := by
  unfold setTB
  split <;> rfl
theorem s_maximum (hr : RepS W X h) {x : Int32} (hs : W.2.1 ≤ 6) (ht : ∀ i, i < 4 → W.2.2.2.1 i < 5) (hb : ∀ i, i < 4 → ∀ v, v ∈ (gS W (W.2.2.2.1 i)).2.2 ∨ v ∈ (gS W (W.2.2.2.1 i)).2.1 → bdI 1800 (dot v (0, nm W 0, nm W 1)) ∧ bdV 30 v)
    (h0 : slB x → Q (.inr 0) h) (h1 : ¬ slB x → ¬ W.2.1 = 2 → Q (.inr 1) h)
    (h2 : ∀ i, i < 4 → x = nI i → W.2.1 = 2 → ∀ h, RepS (set0 (mxW W (W.2.2.2.1 i))) X h → Q (.inl (some (.int (mxV W (W.2.2.2.1 i))))) h) : wpC sc (d + 8) 49 [.ref 0, .int x] h Q := by
  by_cases hx : slB x
  · refine enter rfl rfl (fun call hc => go hc 22 (fun K hK => ?_))
    conv => whnf
    refine ⟨_, hr.D, Nat.le_of_ble_eq_true rfl, ?_⟩
    conv => whnf
    refine callee hc (s_shapeBad hr hx ?_)
    conv => whnf
    exact ⟨rfl, rfl, h0 hx⟩
  obtain ⟨i, hi, rfl⟩ := (slot_cases x).resolve_left hx
  by_cases c2 : W.2.1 = 2
  · have hti := ht i hi
    have g2 := h2 i hi rfl c2
    have hbi := hb i hi
    generalize hT : W.2.2.2.1 i = t at *
    unfold mxW mxV at g2
    have k1 : ∀ v ∈ W.1 (2 * (2 * t + 1) + 1), inL (dot v (0, nm W 0, nm W 1)) := fun v hv => (hbi v (Or.inl hv)).1.inL (by decide)
    have k2 : ∀ v ∈ W.1 (2 * (2 * t + 1) + 1), inV v := fun v hv => (hbi v (Or.inl hv)).2.inV (by decide)
    have k3 : ∀ v ∈ W.1 (2 * (2 * t + 1)), inL (dot v (0, nm W 0, nm W 1)) := fun v hv => (hbi v (Or.inr hv)).1.inL (by decide)
    have k4 : ∀ v ∈ W.1 (2 * (2 * t + 1) + 1), bdI 1800 (dot v (0, nm W 0, nm W 1)) ∧ bdI 30 v.1 := fun v hv => ⟨(hbi v (Or.inl hv)).1, (hbi v (Or.inl hv)).2.1⟩
    refine enter rfl rfl (fun call hc => go hc 22 (fun K hK => ?_))
    conv => whnf
    refine ⟨_, hr.D, Nat.le_of_ble_eq_true rfl, ?_⟩
    conv => whnf
    refine callee hc (s_shapeAt hr hi ?_)
    rw [hT]
    conv => whnf
    refine ⟨_, hr.D, Nat.le_of_ble_eq_true rfl, ?_⟩
    conv => whnf
    refine callee hc (s_need hr (n := 2) c2 ?_)
    conv => whnf
    refine ⟨_, _, hr.D, rfl, ?_⟩
    conv => whnf
    refine Or.inr ⟨_, _, hr.N, vn0, ?_⟩
    rw [n0]
    conv => whnf
    refine ⟨_, _, hr.D, rfl, ?_⟩
    conv => whnf
    refine Or.inr ⟨_, _, hr.N, vn1, ?_⟩
    rw [n1]
    conv => whnf
    refine ⟨_, hr.S _ (by omega), Nat.le_of_ble_eq_true rfl, ?_⟩
    conv => whnf
    refine callee hc (s_isEmpty hr hti ?_)
    conv => whnf
    have hend : ∀ (W' : AW) h, RepS W' X h → (∀ h, RepS (set0 W') X h → Q (.inl (some (.int W'.2.2.2.2.2.1))) h) → ∀ a1 a2, Runs (d + 7) call sc m_X3_maximum (qth (mTh m_X3_maximum) Q) 80 [(0, .ref 0), (1, .int (nI i)), (2, .ref (sid t)), (3, .long a1), (5, .long a2)] [] h 0 0 := fun W' h hr hq a1 a2 => by
      refine go hc 6 (fun K hK => ?_)
      conv => whnf
      refine ⟨_, hr.D, Nat.le_of_ble_eq_true rfl, ?_⟩
      replace hr := hr.said 0
      conv => whnf
      refine ⟨_, _, hr.D, rfl, ?_⟩
      conv => whnf
      exact hq _ hr
    by_cases c3 : W.1 (2 * (2 * t + 1) + 1) = []
    · have c3' : (gS W t).2.2 = [] := c3
      rw [if_pos c3', if_pos c3'] at g2
      rw [decide_eq_true c3]
      refine ⟨fun c_ => absurd c_ (by decide), fun c_ => ?_⟩
      conv => whnf
      refine hK _ _ _ _ _ _ (go hc 4 (fun K hK => ?_))
      conv => whnf
      refine ⟨_, hr.D, Nat.le_of_ble_eq_true rfl, ?_⟩
      conv => whnf
      exact hK _ _ _ _ _ _ (hend _ _ (hr.lat 0) g2 _ _)
    · have c3' : ¬ (gS W t).2.2 = [] := c3
      rw [if_neg c3', if_neg c3'] at g2
      rw [decide_eq_false c3]
      refine ⟨fun c_ => ?_, fun c_ => absurd (rfl) c_⟩
      conv => whnf
      refine hK _ _ _ _ _ _ (go hc 5 (fun K hK => ?_))
      conv => whnf
      refine ⟨_, hr.S _ (by omega), Nat.le_of_ble_eq_true rfl, ?_⟩
      conv => whnf
      refine callee hc (s_climbs hr hti (i32l _) (i32l _) k1 k2 k3 ?_)
      conv => whnf
      change (bI01 (climB (gS W t) (nm W 0) (nm W 1)) = 0 → _) ∧ (¬ bI01 (climB (gS W t) (nm W 0) (nm W 1)) = 0 → _)
      by_cases c4 : climB (gS W t) (nm W 0) (nm W 1) = true
      · rw [if_pos c4, if_pos c4] at g2
        rw [c4]
        refine ⟨fun c_ => absurd c_ (by decide), fun c_ => ?_⟩
        conv => whnf
        refine hK _ _ _ _ _ _ (go hc 4 (fun K hK => ?_))
        conv => whnf
        refine ⟨_, hr.D, Nat.le_of_ble_eq_true rfl, ?_⟩
        conv => whnf
        exact hK _ _ _ _ _ _ (hend _ _ (hr.lat 1) g2 _ _)
      · rw [if_neg c4, if_neg c4] at g2
        rw [(Bool.not_eq_true _).mp c4]
        refine ⟨fun c_ => ?_, fun c_ => absurd (rfl) c_⟩
        conv => whnf
        refine hK _ _ _ _ _ _ (go hc 10 (fun K hK => ?_))
        conv => whnf
        refine ⟨_, hr.D, Nat.le_of_ble_eq_true rfl, ?_⟩
        replace hr := hr.lat 2
        conv => whnf
        refine ⟨_, _, hr.S _ (by omega), rfl, ?_⟩
        conv => whnf
        refine ⟨_, _, hr.C _ (by omega), rfl, ?_⟩
        conv => whnf
        refine ⟨_, hr.D, Nat.le_of_ble_eq_true rfl, ?_⟩
        conv => whnf
        refine callee hc (s_keepGreatest hr (i32l _) (i32l _) (by omega) k4 ?_)
        intro h hr
        conv => whnf
        refine hK _ _ _ _ _ _ (hend _ _ hr ?_ _ _)
        intro h hr
        rw [setTB_lat]
        exact g2 h hr
  · refine enter rfl rfl (fun call hc => go hc 22 (fun K hK => ?_))
    conv => whnf
    refine ⟨_, hr.D, Nat.le_of_ble_eq_true rfl, ?_⟩
    conv => whnf
    refine callee hc (s_shapeAt hr hi ?_)
    conv => whnf
    refine ⟨_, hr.D, Nat.le_of_ble_eq_true rfl, ?_⟩
    conv => whnf
    refine callee hc (s_needBad hr hs (n := 2) (by omega) c2 ?_)
    conv => whnf
    exact ⟨rfl, rfl, h1 hx c2⟩
end MAXI
