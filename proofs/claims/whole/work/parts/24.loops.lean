/-! loops over a cone's rows -/
theorem drop_gt {l : List V3} {i : Nat} (h : i < l.length) : l.drop i = gt l i :: l.drop (i + 1) := by
  rw [List.drop_eq_getElem_cons h]
  have := gt_some h
  rw [List.getElem?_eq_getElem h] at this
  rw [Option.some.inj this]
theorem take_gt {l : List V3} {i : Nat} (h : i < l.length) : l.take (i + 1) = l.take i ++ [gt l i] := by
  rw [List.take_succ, gt_some h]; rfl
theorem nI_dec (k : Nat) : nI (k + 1) + (-1) = nI k := by rw [← Int32.sub_eq_add_neg, nI_pred]
theorem nI_dec' (k : Nat) : nI k + (-1) = nI k - 1 := by rw [← Int32.sub_eq_add_neg]
section LOOPS
variable {sc : Scr} {d : Nat} {W : AW} {X h : PH} {c : Nat} {Q : Out → PH → Prop}
def rcV (c : Nat) (l : List V3) : Nat := (l.filter (rayV c)).length
theorem rc_loop {call : Callee} (hc : call = wpC sc (d + 2)) (hr : Rep W X h) (hc0 : c < 10) (hb : ∀ v ∈ W.1 (2 * c + 1), inV v) :
    ∀ (n i r : Nat), i + n = (W.1 (2 * c + 1)).length → Q (.inl (some (.int (nI (r + rcV c ((W.1 (2 * c + 1)).drop i)))))) h →
    Runs (d + 2) call sc m_X0_rayCount Q 4 [(0, .ref (cid c)), (1, .int (nI r)), (2, .int (nI i))] [] h 0 0 := by
  have hl48 := hr.c48 (show 2 * c + 1 < 21 by omega)
  intro n
  induction n with
  | zero =>
    intro i r hi hQ
    rw [List.drop_eq_nil_of_le (by omega)] at hQ
    refine go hc 5 (fun K hK => ?_)
    conv => whnf
    refine ⟨_, _, hr.C _ (by omega), rfl, ?_⟩
    conv => whnf
    refine ⟨_, hr.R _ (by omega), Nat.le_of_ble_eq_true rfl, ?_⟩
    conv => whnf
    refine callee hc (r_count hr (by omega) ?_)
    conv => whnf
    refine ⟨fun c_ => ?_, fun c_ => absurd (nI_le (by omega) (by omega)) c_⟩
    conv => whnf
    refine hK _ _ _ _ _ _ (go hc 2 (fun K hK => ?_))
    conv => whnf
    exact hQ
  | succ n ih =>
    intro i r hi hQ
    have hb1 := hb _ (gt_mem (show i < (W.1 (2 * c + 1)).length by omega))
    rw [drop_gt (by omega)] at hQ
    unfold rcV at hQ
    rw [List.filter_cons] at hQ
    refine go hc 5 (fun K hK => ?_)
    conv => whnf
    refine ⟨_, _, hr.C _ (by omega), rfl, ?_⟩
    conv => whnf
    refine ⟨_, hr.R _ (by omega), Nat.le_of_ble_eq_true rfl, ?_⟩
    conv => whnf
    refine callee hc (r_count hr (by omega) ?_)
    conv => whnf
    refine ⟨fun c_ => absurd c_ (nI_ge (by omega) (by omega)), fun c_ => ?_⟩
    conv => whnf
    refine hK _ _ _ _ _ _ (go hc 4 (fun K hK => ?_))
    conv => whnf
    refine ⟨_, hr.C _ (by omega), Nat.le_of_ble_eq_true rfl, ?_⟩
    conv => whnf
    refine callee hc (r_isRay hr (by omega) (by omega) (by assumption) ?_)
    conv => whnf
    by_cases h1 : rayV c (gt (W.1 (2 * c + 1)) i) = true
    · rw [if_pos h1, List.length_cons] at hQ
      rw [h1]
      refine ⟨fun c_ => absurd c_ (by decide), fun c_ => ?_⟩
      conv => whnf
      refine hK _ _ _ _ _ _ (go hc 3 (fun K hK => ?_))
      conv => whnf
      try simp only [nI_1]
      refine hK _ _ _ _ _ _ (Runs.less hc [0, 1, 2] rfl rfl rfl rfl (ih _ _ (by omega) (by unfold rcV; rw [show r + 1 + ((List.drop (i + 1) (W.1 (2 * c + 1))).filter (rayV c)).length = r + (((List.drop (i + 1) (W.1 (2 * c + 1))).filter (rayV c)).length + 1) by omega]; exact hQ)))
    · rw [if_neg h1] at hQ
      rw [(Bool.not_eq_true _).mp h1]
      refine ⟨fun c_ => ?_, fun c_ => absurd (rfl) c_⟩
      conv => whnf
      refine hK _ _ _ _ _ _ (go hc 2 (fun K hK => ?_))
      conv => whnf
      try simp only [nI_1]
      refine hK _ _ _ _ _ _ (Runs.less hc [0, 1, 2] rfl rfl rfl rfl (ih _ _ (by omega) hQ))
theorem r_rayCount (hr : Rep W X h) (hc0 : c < 10) (hb : ∀ v ∈ W.1 (2 * c + 1), inV v) (hQ : Q (.inl (some (.int (nI (rcV c (W.1 (2 * c + 1))))))) h) : wpC sc (d + 3) 15 [.ref (cid c)] h Q := by
  refine enter rfl rfl (fun call hc => go hc 4 (fun K hK => ?_))
  conv => whnf
  try simp only [nI_1]
  refine hK _ _ _ _ _ _ (Runs.less hc [0, 1, 2] rfl rfl rfl rfl (rc_loop (Q := qth _ Q) hc hr hc0 hb (W.1 (2 * c + 1)).length 0 0 (by omega) (by rw [Nat.zero_add]; exact hQ)))
/-- all of these rows allow a -/
def alL (l : List V3) (a : V3) : Bool := l.all fun v => decide (dot v a = 0)
def alE (l : List V3) (a : V3) : Bool := l.all fun v => decide (0 ≤ dot v a)
def alB (L E : List V3) (a : V3) : Bool := alL L a && alE E a
theorem al_e {call : Callee} (hc : call = wpC sc (d + 2)) (hr : Rep W X h) (hc0 : c < 10) {a : V3} (hb : ∀ v ∈ W.1 (2 * c + 1), inL (dot v a)) :
    ∀ (n i : Nat), i + n = (W.1 (2 * c + 1)).length → Q (.inl (some (.int (bI01 (alE ((W.1 (2 * c + 1)).drop i) a))))) h →
    Runs (d + 2) call sc m_X0_allow Q 44 [(0, .ref (cid c)), (1, .long (Int64.ofInt a.1)), (3, .long (Int64.ofInt a.2.1)), (5, .long (Int64.ofInt a.2.2)), (7, .int (nI i))] [] h 0 0 := by
  have hl48 := hr.c48 (show 2 * c + 1 < 21 by omega)
  intro n
  induction n with
  | zero =>
    intro i hi hQ
    rw [List.drop_eq_nil_of_le (by omega)] at hQ
    refine go hc 5 (fun K hK => ?_)
    conv => whnf
    refine ⟨_, _, hr.C _ (by omega), rfl, ?_⟩
    conv => whnf
    refine ⟨_, hr.R _ (by omega), Nat.le_of_ble_eq_true rfl, ?_⟩
    conv => whnf
    refine callee hc (r_count hr (by omega) ?_)
    conv => whnf
    refine ⟨fun c_ => ?_, fun c_ => absurd (nI_le (by omega) (by omega)) c_⟩
    conv => whnf
    refine hK _ _ _ _ _ _ (go hc 2 (fun K hK => ?_))
    conv => whnf
    exact ⟨Or.inr rfl, hQ⟩
  | succ n ih =>
    intro i hi hQ
    have hb1 := hb _ (gt_mem (show i < (W.1 (2 * c + 1)).length by omega))
    rw [drop_gt (by omega)] at hQ
    unfold alE at hQ
    rw [List.all_cons] at hQ
    refine go hc 5 (fun K hK => ?_)
    conv => whnf
    refine ⟨_, _, hr.C _ (by omega), rfl, ?_⟩
    conv => whnf
    refine ⟨_, hr.R _ (by omega), Nat.le_of_ble_eq_true rfl, ?_⟩
    conv => whnf
    refine callee hc (r_count hr (by omega) ?_)
    conv => whnf
    refine ⟨fun c_ => absurd c_ (nI_ge (by omega) (by omega)), fun c_ => ?_⟩
    conv => whnf
    refine hK _ _ _ _ _ _ (go hc 10 (fun K hK => ?_))
    conv => whnf
    refine ⟨_, _, hr.C _ (by omega), rfl, ?_⟩
    conv => whnf
    refine ⟨_, hr.R _ (by omega), Nat.le_of_ble_eq_true rfl, ?_⟩
    conv => whnf
    refine callee hc (r_product hr a (by omega) (by omega) rfl rfl rfl ?_)
    conv => whnf
    by_cases h1 : 0 ≤ dot (gt (W.1 (2 * c + 1)) i) a
    · rw [decide_eq_true h1, Bool.true_and] at hQ
      refine ⟨fun c_ => ?_, fun c_ => absurd ((kGe0 hb1).mpr h1) c_⟩
      conv => whnf
      refine hK _ _ _ _ _ _ (go hc 2 (fun K hK => ?_))
      conv => whnf
      try simp only [nI_1]
      refine hK _ _ _ _ _ _ (Runs.less hc [0, 1, 3, 5, 7] rfl rfl rfl rfl (ih _ (by omega) hQ))
    · rw [decide_eq_false h1, Bool.false_and] at hQ
      refine ⟨fun c_ => absurd c_ (fun q => h1 ((kGe0 hb1).mp q)), fun c_ => ?_⟩
      conv => whnf
      refine hK _ _ _ _ _ _ (go hc 2 (fun K hK => ?_))
      conv => whnf
      exact ⟨Or.inl rfl, hQ⟩
theorem al_l {call : Callee} (hc : call = wpC sc (d + 2)) (hr : Rep W X h) (hc0 : c < 10) {a : V3} (hb : ∀ v ∈ W.1 (2 * c + 1), inL (dot v a)) (hbl : ∀ v ∈ W.1 (2 * c), inL (dot v a)) :
    ∀ (n i : Nat), i + n = (W.1 (2 * c)).length → Q (.inl (some (.int (bI01 (alB ((W.1 (2 * c)).drop i) (W.1 (2 * c + 1)) a))))) h →
    Runs (d + 2) call sc m_X0_allow Q 3 [(0, .ref (cid c)), (1, .long (Int64.ofInt a.1)), (3, .long (Int64.ofInt a.2.1)), (5, .long (Int64.ofInt a.2.2)), (7, .int (nI i))] [] h 0 0 := by
  have hl48 := hr.c48 (show 2 * c < 21 by omega)
  intro n
  induction n with
  | zero =>
    intro i hi hQ
    rw [List.drop_eq_nil_of_le (by omega)] at hQ
    refine go hc 5 (fun K hK => ?_)
    conv => whnf
    refine ⟨_, _, hr.C _ (by omega), rfl, ?_⟩
    conv => whnf
    refine ⟨_, hr.R _ (by omega), Nat.le_of_ble_eq_true rfl, ?_⟩
    conv => whnf
    refine callee hc (r_count hr (by omega) ?_)
    conv => whnf
    refine ⟨fun c_ => ?_, fun c_ => absurd (nI_le (by omega) (by omega)) c_⟩
    conv => whnf
    refine hK _ _ _ _ _ _ (go hc 2 (fun K hK => ?_))
    conv => whnf
    try simp only [nI_1]
    refine hK _ _ _ _ _ _ (Runs.less hc [0, 1, 3, 5, 7] rfl rfl rfl rfl (al_e hc hr hc0 hb (W.1 (2 * c + 1)).length 0 (by omega) hQ))
  | succ n ih =>
    intro i hi hQ
    have hb1 := hbl _ (gt_mem (show i < (W.1 (2 * c)).length by omega))
    rw [drop_gt (by omega)] at hQ
    unfold alB alL at hQ
    rw [List.all_cons] at hQ
    refine go hc 5 (fun K hK => ?_)
    conv => whnf
    refine ⟨_, _, hr.C _ (by omega), rfl, ?_⟩
    conv => whnf
    refine ⟨_, hr.R _ (by omega), Nat.le_of_ble_eq_true rfl, ?_⟩
    conv => whnf
    refine callee hc (r_count hr (by omega) ?_)
    conv => whnf
    refine ⟨fun c_ => absurd c_ (nI_ge (by omega) (by omega)), fun c_ => ?_⟩
    conv => whnf
    refine hK _ _ _ _ _ _ (go hc 10 (fun K hK => ?_))
    conv => whnf
    refine ⟨_, _, hr.C _ (by omega), rfl, ?_⟩
    conv => whnf
    refine ⟨_, hr.R _ (by omega), Nat.le_of_ble_eq_true rfl, ?_⟩
    conv => whnf
    refine callee hc (r_product hr a (by omega) (by omega) rfl rfl rfl ?_)
    conv => whnf
    by_cases h1 : dot (gt (W.1 (2 * c)) i) a = 0
    · rw [decide_eq_true h1, Bool.true_and] at hQ
      refine ⟨fun c_ => ?_, fun c_ => absurd ((kEq0 hb1).mpr h1) c_⟩
      conv => whnf
      refine hK _ _ _ _ _ _ (go hc 2 (fun K hK => ?_))
      conv => whnf
      try simp only [nI_1]
      refine hK _ _ _ _ _ _ (Runs.less hc [0, 1, 3, 5, 7] rfl rfl rfl rfl (ih _ (by omega) hQ))
    · rw [decide_eq_false h1, Bool.false_and, Bool.false_and] at hQ
      refine ⟨fun c_ => absurd c_ (fun q => h1 ((kEq0 hb1).mp q)), fun c_ => ?_⟩
      conv => whnf
      refine hK _ _ _ _ _ _ (go hc 2 (fun K hK => ?_))
      conv => whnf
      exact ⟨Or.inl rfl, hQ⟩
theorem r_allow (hr : Rep W X h) (hc0 : c < 10) (a : V3) {x y z : Int64} (hx : x = Int64.ofInt a.1) (hy : y = Int64.ofInt a.2.1) (hz : z = Int64.ofInt a.2.2) (hb : ∀ v ∈ W.1 (2 * c + 1), inL (dot v a)) (hbl : ∀ v ∈ W.1 (2 * c), inL (dot v a)) (hQ : Q (.inl (some (.int (bI01 (alB (W.1 (2 * c)) (W.1 (2 * c + 1)) a))))) h) : wpC sc (d + 3) 16 [.ref (cid c), .long x, .long y, .long z] h Q := by
  subst hx; subst hy; subst hz
  refine enter rfl rfl (fun call hc => go hc 2 (fun K hK => ?_))
  conv => whnf
  try simp only [nI_1]
  refine hK _ _ _ _ _ _ (Runs.less hc [0, 1, 3, 5, 7] rfl rfl rfl rfl (al_l (Q := qth _ Q) hc hr hc0 hb hbl (W.1 (2 * c)).length 0 (by omega) hQ))
theorem dot_neg (v a : V3) : dot v (neg3 a) = -(dot v a) := by
  unfold dot neg3
  simp only [Int.mul_neg]
  omega
theorem inL.neg {a : Int} (h : inL a) : inL (-a) := by
  have h1 := h.1; have h2 := h.2
  constructor <;> omega
def aaB (L E L2 E2 : List V3) : Bool := (L2.all fun v => alB L E v && alB L E (neg3 v)) && E2.all fun v => alB L E v
theorem aa_e {call : Callee} (hc : call = wpC sc (d + 3)) (hr : Rep W X h) {c2 : Nat} (hc0 : c < 10) (hc2 : c2 < 10)
    (hb : ∀ a ∈ W.1 (2 * c2 + 1), (∀ v ∈ W.1 (2 * c + 1), inL (dot v a)) ∧ ∀ v ∈ W.1 (2 * c), inL (dot v a)) :
    ∀ (n i : Nat), i + n = (W.1 (2 * c2 + 1)).length → Q (.inl (some (.int (bI01 (((W.1 (2 * c2 + 1)).drop i).all fun v => alB (W.1 (2 * c)) (W.1 (2 * c + 1)) v))))) h →
    Runs (d + 3) call sc m_X0_allowAll Q 94 [(0, .ref (cid c)), (1, .ref (cid c2)), (2, .int (nI i))] [] h 0 0 := by
  have hl48 := hr.c48 (show 2 * c2 + 1 < 21 by omega)
  intro n
  induction n with
  | zero =>
    intro i hi hQ
    rw [List.drop_eq_nil_of_le (by omega)] at hQ
    refine go hc 5 (fun K hK => ?_)
    conv => whnf
    refine ⟨_, _, hr.C _ (by omega), rfl, ?_⟩
    conv => whnf
    refine ⟨_, hr.R _ (by omega), Nat.le_of_ble_eq_true rfl, ?_⟩
    conv => whnf
    refine callee hc (r_count hr (by omega) ?_)
    conv => whnf
    refine ⟨fun c_ => ?_, fun c_ => absurd (nI_le (by omega) (by omega)) c_⟩
    conv => whnf
    refine hK _ _ _ _ _ _ (go hc 2 (fun K hK => ?_))
    conv => whnf
    exact ⟨Or.inr rfl, hQ⟩
  | succ n ih =>
    intro i hi hQ
    obtain ⟨hb1, hb2⟩ := hb _ (gt_mem (show i < (W.1 (2 * c2 + 1)).length by omega))
    rw [drop_gt (by omega), List.all_cons] at hQ
    refine go hc 5 (fun K hK => ?_)
    conv => whnf
    refine ⟨_, _, hr.C _ (by omega), rfl, ?_⟩
    conv => whnf
    refine ⟨_, hr.R _ (by omega), Nat.le_of_ble_eq_true rfl, ?_⟩
    conv => whnf
    refine callee hc (r_count hr (by omega) ?_)
    conv => whnf
    refine ⟨fun c_ => absurd c_ (nI_ge (by omega) (by omega)), fun c_ => ?_⟩
    conv => whnf
    refine hK _ _ _ _ _ _ (go hc 18 (fun K hK => ?_))
    conv => whnf
    refine ⟨_, _, hr.C _ (by omega), rfl, ?_⟩
    conv => whnf
    refine ⟨_, hr.R _ (by omega), Nat.le_of_ble_eq_true rfl, ?_⟩
    conv => whnf
    refine callee hc (r_at0 hr (by omega) (by omega) ?_)
    conv => whnf
    refine ⟨_, _, hr.C _ (by omega), rfl, ?_⟩
    conv => whnf
    refine ⟨_, hr.R _ (by omega), Nat.le_of_ble_eq_true rfl, ?_⟩
    conv => whnf
    refine callee hc (r_at1 hr (by omega) (by omega) ?_)
    conv => whnf
    refine ⟨_, _, hr.C _ (by omega), rfl, ?_⟩
    conv => whnf
    refine ⟨_, hr.R _ (by omega), Nat.le_of_ble_eq_true rfl, ?_⟩
    conv => whnf
    refine callee hc (r_at2 hr (by omega) (by omega) ?_)
    conv => whnf
    refine ⟨_, hr.C _ (by omega), Nat.le_of_ble_eq_true rfl, ?_⟩
    conv => whnf
    refine callee hc (r_allow hr hc0 (gt (W.1 (2 * c2 + 1)) i) rfl rfl rfl hb1 hb2 ?_)
    conv => whnf
    by_cases h1 : alB (W.1 (2 * c)) (W.1 (2 * c + 1)) (gt (W.1 (2 * c2 + 1)) i) = true
    · rw [h1, Bool.true_and] at hQ
      rw [h1]
      refine ⟨fun c_ => absurd c_ (by decide), fun c_ => ?_⟩
      conv => whnf
      refine hK _ _ _ _ _ _ (go hc 2 (fun K hK => ?_))
      conv => whnf
      try simp only [nI_1]
      refine hK _ _ _ _ _ _ (Runs.less hc [0, 1, 2] rfl rfl rfl rfl (ih _ (by omega) hQ))
    · rw [(Bool.not_eq_true _).mp h1, Bool.false_and] at hQ
      rw [(Bool.not_eq_true _).mp h1]
      refine ⟨fun c_ => ?_, fun c_ => absurd (rfl) c_⟩
      conv => whnf
      refine hK _ _ _ _ _ _ (go hc 2 (fun K hK => ?_))
      conv => whnf
      exact ⟨Or.inl rfl, hQ⟩
theorem aa_l {call : Callee} (hc : call = wpC sc (d + 3)) (hr : Rep W X h) {c2 : Nat} (hc0 : c < 10) (hc2 : c2 < 10)
    (hb : ∀ a ∈ W.1 (2 * c2 + 1), (∀ v ∈ W.1 (2 * c + 1), inL (dot v a)) ∧ ∀ v ∈ W.1 (2 * c), inL (dot v a))
    (hbl : ∀ a ∈ W.1 (2 * c2), (∀ v ∈ W.1 (2 * c + 1), inL (dot v a)) ∧ ∀ v ∈ W.1 (2 * c), inL (dot v a)) :
    ∀ (n i : Nat), i + n = (W.1 (2 * c2)).length → Q (.inl (some (.int (bI01 (aaB (W.1 (2 * c)) (W.1 (2 * c + 1)) ((W.1 (2 * c2)).drop i) (W.1 (2 * c2 + 1))))))) h →
    Runs (d + 3) call sc m_X0_allowAll Q 2 [(0, .ref (cid c)), (1, .ref (cid c2)), (2, .int (nI i))] [] h 0 0 := by
  have hl48 := hr.c48 (show 2 * c2 < 21 by omega)
  intro n
  induction n with
  | zero =>
    intro i hi hQ
    rw [List.drop_eq_nil_of_le (by omega)] at hQ
    refine go hc 5 (fun K hK => ?_)
    conv => whnf
    refine ⟨_, _, hr.C _ (by omega), rfl, ?_⟩
    conv => whnf
    refine ⟨_, hr.R _ (by omega), Nat.le_of_ble_eq_true rfl, ?_⟩
    conv => whnf
    refine callee hc (r_count hr (by omega) ?_)
    conv => whnf
    refine ⟨fun c_ => ?_, fun c_ => absurd (nI_le (by omega) (by omega)) c_⟩
    conv => whnf
    refine hK _ _ _ _ _ _ (go hc 2 (fun K hK => ?_))
    conv => whnf
    try simp only [nI_1]
    refine hK _ _ _ _ _ _ (Runs.less hc [0, 1, 2] rfl rfl rfl rfl (aa_e hc hr hc0 hc2 hb (W.1 (2 * c2 + 1)).length 0 (by omega) hQ))
  | succ n ih =>
    intro i hi hQ
    obtain ⟨hb1, hb2⟩ := hbl _ (gt_mem (show i < (W.1 (2 * c2)).length by omega))
    have hb3 : ∀ v ∈ W.1 (2 * c + 1), inL (dot v (neg3 (gt (W.1 (2 * c2)) i))) := fun v hv => by rw [dot_neg]; exact (hb1 v hv).neg
    have hb4 : ∀ v ∈ W.1 (2 * c), inL (dot v (neg3 (gt (W.1 (2 * c2)) i))) := fun v hv => by rw [dot_neg]; exact (hb2 v hv).neg
    rw [drop_gt (by omega)] at hQ
    unfold aaB at hQ
    rw [List.all_cons] at hQ
    refine go hc 5 (fun K hK => ?_)
    conv => whnf
    refine ⟨_, _, hr.C _ (by omega), rfl, ?_⟩
    conv => whnf
    refine ⟨_, hr.R _ (by omega), Nat.le_of_ble_eq_true rfl, ?_⟩
    conv => whnf
    refine callee hc (r_count hr (by omega) ?_)
    conv => whnf
    refine ⟨fun c_ => absurd c_ (nI_ge (by omega) (by omega)), fun c_ => ?_⟩
    conv => whnf
    refine hK _ _ _ _ _ _ (go hc 18 (fun K hK => ?_))
    conv => whnf
    refine ⟨_, _, hr.C _ (by omega), rfl, ?_⟩
    conv => whnf
    refine ⟨_, hr.R _ (by omega), Nat.le_of_ble_eq_true rfl, ?_⟩
    conv => whnf
    refine callee hc (r_at0 hr (by omega) (by omega) ?_)
    conv => whnf
    refine ⟨_, _, hr.C _ (by omega), rfl, ?_⟩
    conv => whnf
    refine ⟨_, hr.R _ (by omega), Nat.le_of_ble_eq_true rfl, ?_⟩
    conv => whnf
    refine callee hc (r_at1 hr (by omega) (by omega) ?_)
    conv => whnf
    refine ⟨_, _, hr.C _ (by omega), rfl, ?_⟩
    conv => whnf
    refine ⟨_, hr.R _ (by omega), Nat.le_of_ble_eq_true rfl, ?_⟩
    conv => whnf
    refine callee hc (r_at2 hr (by omega) (by omega) ?_)
    conv => whnf
    refine ⟨_, hr.C _ (by omega), Nat.le_of_ble_eq_true rfl, ?_⟩
    conv => whnf
    refine callee hc (r_allow hr hc0 (gt (W.1 (2 * c2)) i) rfl rfl rfl hb1 hb2 ?_)
    conv => whnf
    by_cases h1 : alB (W.1 (2 * c)) (W.1 (2 * c + 1)) (gt (W.1 (2 * c2)) i) = true
    · rw [h1, Bool.true_and] at hQ
      rw [h1]
      refine ⟨fun c_ => absurd c_ (by decide), fun c_ => ?_⟩
      conv => whnf
      refine hK _ _ _ _ _ _ (go hc 21 (fun K hK => ?_))
      conv => whnf
      refine ⟨_, _, hr.C _ (by omega), rfl, ?_⟩
      conv => whnf
      refine ⟨_, hr.R _ (by omega), Nat.le_of_ble_eq_true rfl, ?_⟩
      conv => whnf
      refine callee hc (r_at0 hr (by omega) (by omega) ?_)
      conv => whnf
      refine ⟨_, _, hr.C _ (by omega), rfl, ?_⟩
      conv => whnf
      refine ⟨_, hr.R _ (by omega), Nat.le_of_ble_eq_true rfl, ?_⟩
      conv => whnf
      refine callee hc (r_at1 hr (by omega) (by omega) ?_)
      conv => whnf
      refine ⟨_, _, hr.C _ (by omega), rfl, ?_⟩
      conv => whnf
      refine ⟨_, hr.R _ (by omega), Nat.le_of_ble_eq_true rfl, ?_⟩
      conv => whnf
      refine callee hc (r_at2 hr (by omega) (by omega) ?_)
      conv => whnf
      refine ⟨_, hr.C _ (by omega), Nat.le_of_ble_eq_true rfl, ?_⟩
      conv => whnf
      refine callee hc (r_allow hr hc0 (neg3 (gt (W.1 (2 * c2)) i)) (Int64.ofInt_neg _).symm (Int64.ofInt_neg _).symm (Int64.ofInt_neg _).symm hb3 hb4 ?_)
      conv => whnf
      by_cases h2 : alB (W.1 (2 * c)) (W.1 (2 * c + 1)) (neg3 (gt (W.1 (2 * c2)) i)) = true
      · rw [h2, Bool.true_and] at hQ
        rw [h2]
        refine ⟨fun c_ => absurd c_ (by decide), fun c_ => ?_⟩
        conv => whnf
        refine hK _ _ _ _ _ _ (go hc 2 (fun K hK => ?_))
        conv => whnf
        try simp only [nI_1]
        refine hK _ _ _ _ _ _ (Runs.less hc [0, 1, 2] rfl rfl rfl rfl (ih _ (by omega) hQ))
      · rw [(Bool.not_eq_true _).mp h2, Bool.false_and, Bool.false_and] at hQ
        rw [(Bool.not_eq_true _).mp h2]
        refine ⟨fun c_ => ?_, fun c_ => absurd (rfl) c_⟩
        conv => whnf
        refine hK _ _ _ _ _ _ (go hc 2 (fun K hK => ?_))
        conv => whnf
        exact ⟨Or.inl rfl, hQ⟩
    · rw [(Bool.not_eq_true _).mp h1, Bool.false_and, Bool.false_and, Bool.false_and] at hQ
      rw [(Bool.not_eq_true _).mp h1]
      refine ⟨fun c_ => ?_, fun c_ => absurd (rfl) c_⟩
      conv => whnf
      refine hK _ _ _ _ _ _ (go hc 2 (fun K hK => ?_))
      conv => whnf
      exact ⟨Or.inl rfl, hQ⟩
theorem r_allowAll (hr : Rep W X h) {c2 : Nat} (hc0 : c < 10) (hc2 : c2 < 10)
    (hb : ∀ a ∈ W.1 (2 * c2 + 1), (∀ v ∈ W.1 (2 * c + 1), inL (dot v a)) ∧ ∀ v ∈ W.1 (2 * c), inL (dot v a))
    (hbl : ∀ a ∈ W.1 (2 * c2), (∀ v ∈ W.1 (2 * c + 1), inL (dot v a)) ∧ ∀ v ∈ W.1 (2 * c), inL (dot v a))
    (hQ : Q (.inl (some (.int (bI01 (aaB (W.1 (2 * c)) (W.1 (2 * c + 1)) (W.1 (2 * c2)) (W.1 (2 * c2 + 1))))))) h) : wpC sc (d + 4) 17 [.ref (cid c), .ref (cid c2)] h Q := by
  refine enter rfl rfl (fun call hc => go hc 2 (fun K hK => ?_))
  conv => whnf
  try simp only [nI_1]
  refine hK _ _ _ _ _ _ (Runs.less hc [0, 1, 2] rfl rfl rfl rfl (aa_l (Q := qth _ Q) hc hr hc0 hc2 hb hbl (W.1 (2 * c2)).length 0 (by omega) hQ))
end LOOPS
