/-! cutting edges: the loop; cutting -/
section CUT
variable {sc : Scr} {d : Nat} {W : AW} {X h : PH} {c : Nat} {Q : Out → PH → Prop}
theorem ce_45 {call : Callee} (hc : call = wpC sc (d + 2)) (hc0 : c < 10) {i nx : Nat} {a : V3} {S : List V3} (hr : Rep (sl W 20 S) X h) (hi : i < (W.1 (2 * c + 1)).length) (hn : nx < (W.1 (2 * c + 1)).length) (hl48 : (W.1 (2 * c + 1)).length ≤ 48) (hS : (S ++ (ce1 (gt (W.1 (2 * c + 1)) i) a ++ ce2 (decide (0 < nx ∨ 2 < (W.1 (2 * c + 1)).length)) (gt (W.1 (2 * c + 1)) i) (gt (W.1 (2 * c + 1)) nx) a)).length ≤ 48)
    (hx : inL (dot (gt (W.1 (2 * c + 1)) i) a)) (hy : inL (dot (gt (W.1 (2 * c + 1)) nx) a))
    (hm : inV (lin (abI (dot (gt (W.1 (2 * c + 1)) nx) a)) (abI (dot (gt (W.1 (2 * c + 1)) i) a)) (gt (W.1 (2 * c + 1)) i) (gt (W.1 (2 * c + 1)) nx)))
    (hQ : ∀ h, Rep (sl W 20 (S ++ (ce1 (gt (W.1 (2 * c + 1)) i) a ++ ce2 (decide (0 < nx ∨ 2 < (W.1 (2 * c + 1)).length)) (gt (W.1 (2 * c + 1)) i) (gt (W.1 (2 * c + 1)) nx) a))) X h → Runs (d + 2) call sc m_X0_cutEdges Q 19 [(0, .ref (cid c)), (1, .long (Int64.ofInt a.1)), (3, .long (Int64.ofInt a.2.1)), (5, .long (Int64.ofInt a.2.2)), (7, .int (nI (W.1 (2 * c + 1)).length)), (8, .int (nI (i + 1)))] [] h 0 0) :
    Runs (d + 2) call sc m_X0_cutEdges Q 45 [(0, .ref (cid c)), (1, .long (Int64.ofInt a.1)), (3, .long (Int64.ofInt a.2.1)), (5, .long (Int64.ofInt a.2.2)), (7, .int (nI (W.1 (2 * c + 1)).length)), (8, .int (nI i)), (9, .int (nI nx))] [] h 0 0 := by
  have e1 : ∀ S, (sl W 20 S).1 (2 * c + 1) = W.1 (2 * c + 1) := fun S => scE hc0
  have e2 : ∀ S, (sl W 20 S).1 20 = S := fun S => sl_self _ _ _
  have hil : ∀ S, i < ((sl W 20 S).1 (2 * c + 1)).length := fun S => by rw [e1]; exact hi
  have hnl : ∀ S, nx < ((sl W 20 S).1 (2 * c + 1)).length := fun S => by rw [e1]; exact hn
  rw [← List.append_assoc] at hS hQ
  refine go hc 20 (fun K hK => ?_)
  conv => whnf
  refine ⟨_, _, hr.C _ (by omega), rfl, ?_⟩
  conv => whnf
  refine ⟨_, hr.R _ (by omega), Nat.le_of_ble_eq_true rfl, ?_⟩
  conv => whnf
  refine callee hc (r_product hr a (by omega) (hil _) rfl rfl rfl ?_)
  rw [e1]
  conv => whnf
  refine ⟨_, _, hr.C _ (by omega), rfl, ?_⟩
  conv => whnf
  refine ⟨_, hr.R _ (by omega), Nat.le_of_ble_eq_true rfl, ?_⟩
  conv => whnf
  refine callee hc (r_product hr a (by omega) (hnl _) rfl rfl rfl ?_)
  rw [e1]
  conv => whnf
  by_cases h1 : dot (gt (W.1 (2 * c + 1)) i) a < 0
  · rw [show ce1 (gt (W.1 (2 * c + 1)) i) a = [] from if_neg (by omega), List.append_nil] at hS hQ
    refine ⟨fun c_ => ?_, fun c_ => absurd ((kLt0 hx).mpr h1) c_⟩
    conv => whnf
    try simp only [nI_1]
    refine hK _ _ _ _ _ _ (Runs.less hc [0, 1, 3, 5, 7, 8, 9, 10, 12] rfl rfl rfl rfl (ce_119 hc hc0 hr hi hn hl48 hS hx hy hm hQ))
  · rw [show ce1 (gt (W.1 (2 * c + 1)) i) a = [gt (W.1 (2 * c + 1)) i] from if_pos (by omega)] at hS hQ
    refine ⟨fun c_ => absurd c_ (fun q => h1 ((kLt0 hx).mp q)), fun c_ => ?_⟩
    conv => whnf
    refine hK _ _ _ _ _ _ (go hc 18 (fun K hK => ?_))
    conv => whnf
    refine ⟨_, _, hr.C _ (by omega), rfl, ?_⟩
    conv => whnf
    refine ⟨_, _, hr.C _ (by omega), rfl, ?_⟩
    conv => whnf
    refine ⟨_, hr.R _ (by omega), Nat.le_of_ble_eq_true rfl, ?_⟩
    conv => whnf
    refine callee hc (r_at0 hr (by omega) (hil _) ?_)
    rw [e1]
    conv => whnf
    refine ⟨_, _, hr.C _ (by omega), rfl, ?_⟩
    conv => whnf
    refine ⟨_, hr.R _ (by omega), Nat.le_of_ble_eq_true rfl, ?_⟩
    conv => whnf
    refine callee hc (r_at1 hr (by omega) (hil _) ?_)
    rw [e1]
    conv => whnf
    refine ⟨_, _, hr.C _ (by omega), rfl, ?_⟩
    conv => whnf
    refine ⟨_, hr.R _ (by omega), Nat.le_of_ble_eq_true rfl, ?_⟩
    conv => whnf
    refine callee hc (r_at2 hr (by omega) (hil _) ?_)
    rw [e1]
    conv => whnf
    refine ⟨_, hr.R _ (by omega), Nat.le_of_ble_eq_true rfl, ?_⟩
    conv => whnf
    refine callee hc (r_add hr (gt (W.1 (2 * c + 1)) i) (by omega) (by rw [List.length_append, List.length_append, List.length_singleton] at hS; rw [e2, cap_s]; omega) rfl rfl rfl ?_)
    intro h hr
    rw [e2, sl_sl] at hr
    conv => whnf
    try simp only [nI_1]
    refine hK _ _ _ _ _ _ (Runs.less hc [0, 1, 3, 5, 7, 8, 9, 10, 12] rfl rfl rfl rfl (ce_119 hc hc0 hr hi hn hl48 hS hx hy hm hQ))
theorem ce_loop {call : Callee} (hc : call = wpC sc (d + 2)) (hc0 : c < 10) {a : V3} (hl48 : (W.1 (2 * c + 1)).length ≤ 48) (hS : (ceA (W.1 (2 * c + 1)) a (W.1 (2 * c + 1)).length).length ≤ 48) (hba : bdV RD a) (hbe : ∀ v ∈ W.1 (2 * c + 1), bdV BD v)
    (hQ : ∀ h S, Rep (sl (sl W (2 * c + 1) (ceA (W.1 (2 * c + 1)) a (W.1 (2 * c + 1)).length)) 20 S) X h → Q (.inl none) h) :
    ∀ (n i : Nat) (h : PH), i + n = (W.1 (2 * c + 1)).length → Rep (sl W 20 (ceA (W.1 (2 * c + 1)) a i)) X h →
    Runs (d + 2) call sc m_X0_cutEdges Q 19 [(0, .ref (cid c)), (1, .long (Int64.ofInt a.1)), (3, .long (Int64.ofInt a.2.1)), (5, .long (Int64.ofInt a.2.2)), (7, .int (nI (W.1 (2 * c + 1)).length)), (8, .int (nI i))] [] h 0 0 := by
  have hbd : ∀ v, bdV BD v → bdI 121500000000 (dot v a) := fun v hv => bd_dot hv hba
  have hab : ∀ x : Int, bdI 121500000000 x → bdI 121500000000 (abI x) := fun x hx => by
    have h1 := hx.1; have h2 := hx.2
    unfold abI
    constructor <;> omega
  have hce := cap_e hc0
  intro n
  induction n with
  | zero =>
    intro i h hi hr
    rw [show i = (W.1 (2 * c + 1)).length by omega] at hr ⊢
    refine go hc 3 (fun K hK => ?_)
    conv => whnf
    refine ⟨fun c_ => ?_, fun c_ => absurd (nI_le (Nat.le_refl _) (by omega)) c_⟩
    conv => whnf
    refine hK _ _ _ _ _ _ (go hc 6 (fun K hK => ?_))
    conv => whnf
    refine ⟨_, _, hr.C _ (by omega), rfl, ?_⟩
    conv => whnf
    refine ⟨_, _, hr.C _ (by omega), rfl, ?_⟩
    conv => whnf
    refine ⟨_, hr.R _ (by omega), Nat.le_of_ble_eq_true rfl, ?_⟩
    conv => whnf
    refine callee hc (r_copyFrom hr (by omega) (by omega) (by omega) (by rw [sl_self, hce]; exact hS) ?_)
    intro h hr
    rw [sl_self, sl_comm _ (by omega)] at hr
    conv => whnf
    exact hQ h _ hr
  | succ n ih =>
    intro i h hi hr
    have hil : i < (W.1 (2 * c + 1)).length := by omega
    have hnl : nxE (W.1 (2 * c + 1)).length i < (W.1 (2 * c + 1)).length := by unfold nxE; split <;> omega
    have b1 := hbe _ (gt_mem hil)
    have b2 := hbe _ (gt_mem hnl)
    have hle := ceA_le (W.1 (2 * c + 1)) a (show i + 1 ≤ (W.1 (2 * c + 1)).length by omega)
    have hih := fun h => ih (i + 1) h (by omega)
    rw [ceA_succ] at hle hih
    have hk : Runs (d + 2) call sc m_X0_cutEdges Q 45 [(0, .ref (cid c)), (1, .long (Int64.ofInt a.1)), (3, .long (Int64.ofInt a.2.1)), (5, .long (Int64.ofInt a.2.2)), (7, .int (nI (W.1 (2 * c + 1)).length)), (8, .int (nI i)), (9, .int (nI (nxE (W.1 (2 * c + 1)).length i)))] [] h 0 0 :=
      ce_45 hc hc0 hr hil hnl hl48 (Nat.le_trans hle hS) ((hbd _ b1).inL (by decide)) ((hbd _ b2).inL (by decide)) ((bd_lin (hab _ (hbd _ b2)) (hab _ (hbd _ b1)) b1 b2).inV (by decide)) hih
    refine go hc 3 (fun K hK => ?_)
    conv => whnf
    refine ⟨fun c_ => absurd c_ (nI_ge hil (by omega)), fun c_ => ?_⟩
    conv => whnf
    refine hK _ _ _ _ _ _ (go hc 5 (fun K hK => ?_))
    conv => whnf
    rw [nI_1]
    unfold nxE at hk
    by_cases h1 : i + 1 < (W.1 (2 * c + 1)).length
    · rw [if_pos h1] at hk
      refine ⟨fun c_ => absurd c_ (nI_ge h1 (by omega)), fun c_ => ?_⟩
      conv => whnf
      refine hK _ _ _ _ _ _ (go hc 5 (fun K hK => ?_))
      conv => whnf
      try simp only [nI_1]
      refine hK _ _ _ _ _ _ (Runs.less hc [0, 1, 3, 5, 7, 8, 9] rfl rfl rfl rfl hk)
    · rw [if_neg h1] at hk
      refine ⟨fun c_ => ?_, fun c_ => absurd (nI_le (by omega) (by omega)) c_⟩
      conv => whnf
      refine hK _ _ _ _ _ _ (go hc 2 (fun K hK => ?_))
      conv => whnf
      try simp only [nI_1]
      refine hK _ _ _ _ _ _ (Runs.less hc [0, 1, 3, 5, 7, 8, 9] rfl rfl rfl rfl hk)
theorem r_cutEdges (hr : Rep W X h) (hc0 : c < 10) {a : V3} {x y z : Int64} (hx : x = Int64.ofInt a.1) (hy : y = Int64.ofInt a.2.1) (hz : z = Int64.ofInt a.2.2) (hS : (ceA (W.1 (2 * c + 1)) a (W.1 (2 * c + 1)).length).length ≤ 48) (hba : bdV RD a) (hbe : ∀ v ∈ W.1 (2 * c + 1), bdV BD v)
    (hQ : ∀ h S, Rep (sl (sl W (2 * c + 1) (ceA (W.1 (2 * c + 1)) a (W.1 (2 * c + 1)).length)) 20 S) X h → Q (.inl none) h) : wpC sc (d + 3) 8 [.ref (cid c), .long x, .long y, .long z] h Q := by
  subst hx; subst hy; subst hz
  refine enter rfl rfl (fun call hc => go hc 9 (fun K hK => ?_))
  conv => whnf
  refine ⟨_, _, hr.C _ (by omega), rfl, ?_⟩
  conv => whnf
  refine ⟨_, hr.R _ (by omega), Nat.le_of_ble_eq_true rfl, ?_⟩
  conv => whnf
  refine callee hc (r_clear hr (by omega) ?_)
  intro h hr
  conv => whnf
  refine ⟨_, _, hr.C _ (by omega), rfl, ?_⟩
  conv => whnf
  refine ⟨_, hr.R _ (by omega), Nat.le_of_ble_eq_true rfl, ?_⟩
  conv => whnf
  refine callee hc (r_count hr (by omega) ?_)
  rw [sl_ne _ _ (show 2 * c + 1 ≠ 20 by omega)]
  conv => whnf
  try simp only [nI_1]
  refine hK _ _ _ _ _ _ (Runs.less hc [0, 1, 3, 5, 7, 8] rfl rfl rfl rfl (ce_loop (Q := qth _ Q) hc hc0 (by have q := hr.c48 (show 2 * c + 1 < 21 by omega); rw [sl_ne _ _ (show 2 * c + 1 ≠ 20 by omega)] at q; exact q) hS hba hbe hQ (W.1 (2 * c + 1)).length 0 h (by omega) hr))
/-! the cut -/
def fl (L : List V3) (a : V3) : Nat → Nat → Option Nat
  | 0, _ => none
  | n + 1, i => if dot (gt L i) a = 0 then fl L a n (i + 1) else some i
def anyB (E : List V3) (a : V3) : Bool := E.any fun v => decide (dot v a < 0)
def cutR (L E : List V3) (a : V3) : Option Nat → List V3 × List V3
  | some i => (clL L i a, clE L E i a)
  | none => if anyB E a = true then (L, ceA E a E.length) else (L, E)
def cutF (a : V3) (s : List V3 × List V3) : List V3 × List V3 := cutR s.1 s.2 a (fl s.1 a s.1.length 0)
/-- but for the scratch -/
def RepS (W : AW) (X h : PH) : Prop := ∃ S, Rep (sl W 20 S) X h
theorem sC_20 (W : AW) {c : Nat} (hc0 : c < 10) (L E S : List V3) : sl (sC W c L E) 20 S = sC (sl W 20 S) c L E := by
  unfold sC
  rw [sl_comm _ (by omega), sl_comm W (by omega)]
theorem Rep.toS (hr : Rep W X h) : RepS W X h := ⟨W.1 20, by rw [sl_id]; exact hr⟩
theorem ct_e {call : Callee} (hc : call = wpC sc (d + 3)) (hr : Rep W X h) (hc0 : c < 10) {a : V3} (hS : anyB (W.1 (2 * c + 1)) a = true → (ceA (W.1 (2 * c + 1)) a (W.1 (2 * c + 1)).length).length ≤ 48) (hba : bdV RD a) (hbe : ∀ v ∈ W.1 (2 * c + 1), bdV BD v)
    (h1 : anyB (W.1 (2 * c + 1)) a = true → ∀ h, RepS (sC W c (W.1 (2 * c)) (ceA (W.1 (2 * c + 1)) a (W.1 (2 * c + 1)).length)) X h → Q (.inl none) h) (h0 : anyB (W.1 (2 * c + 1)) a = false → Q (.inl none) h) :
    ∀ (n i : Nat), i + n = (W.1 (2 * c + 1)).length → (∀ q, q < i → ¬ dot (gt (W.1 (2 * c + 1)) q) a < 0) →
    Runs (d + 3) call sc m_X0_cut Q 53 [(0, .ref (cid c)), (1, .long (Int64.ofInt a.1)), (3, .long (Int64.ofInt a.2.1)), (5, .long (Int64.ofInt a.2.2)), (7, .int (nI i))] [] h 0 0 := by
  have hl48 := hr.c48 (show 2 * c + 1 < 21 by omega)
  have hbd : ∀ v, bdV BD v → bdI 121500000000 (dot v a) := fun v hv => bd_dot hv hba
  intro n
  induction n with
  | zero =>
    intro i hi hq
    refine go hc 5 (fun K hK => ?_)
    conv => whnf
    refine ⟨_, _, hr.C _ (by omega), rfl, ?_⟩
    conv => whnf
    refine ⟨_, hr.R _ (by omega), Nat.le_of_ble_eq_true rfl, ?_⟩
    conv => whnf
    refine callee hc (r_count hr (by omega) ?_)
    conv => whnf
    refine ⟨fun c_ => ?_, fun c_ => absurd (nI_le (by omega) (by omega)) c_⟩
    conv => whnf
    refine hK _ _ _ _ _ _ (go hc 1 (fun K hK => ?_))
    conv => whnf
    refine h0 ?_
    refine (Bool.not_eq_true _).mp fun q => ?_
    obtain ⟨v, hv, hv2⟩ := List.any_eq_true.mp q
    obtain ⟨k, hk⟩ := List.getElem?_of_mem hv
    refine hq k (by have := (List.getElem?_eq_some_iff.mp hk).1; omega) ?_
    rw [gt_of hk]; exact of_decide_eq_true hv2
  | succ n ih =>
    intro i hi hq
    have hil : i < (W.1 (2 * c + 1)).length := by omega
    have hb1 := (hbd _ (hbe _ (gt_mem hil))).inL (by decide)
    refine go hc 5 (fun K hK => ?_)
    conv => whnf
    refine ⟨_, _, hr.C _ (by omega), rfl, ?_⟩
    conv => whnf
    refine ⟨_, hr.R _ (by omega), Nat.le_of_ble_eq_true rfl, ?_⟩
    conv => whnf
    refine callee hc (r_count hr (by omega) ?_)
    conv => whnf
    refine ⟨fun c_ => absurd c_ (nI_ge hil (by omega)), fun c_ => ?_⟩
    conv => whnf
    refine hK _ _ _ _ _ _ (go hc 10 (fun K hK => ?_))
    conv => whnf
    refine ⟨_, _, hr.C _ (by omega), rfl, ?_⟩
    conv => whnf
    refine ⟨_, hr.R _ (by omega), Nat.le_of_ble_eq_true rfl, ?_⟩
    conv => whnf
    refine callee hc (r_product hr a (by omega) (by omega) rfl rfl rfl ?_)
    conv => whnf
    by_cases hz : 0 ≤ dot (gt (W.1 (2 * c + 1)) i) a
    · refine ⟨fun c_ => ?_, fun c_ => absurd ((kGe0 hb1).mpr hz) c_⟩
      conv => whnf
      refine hK _ _ _ _ _ _ (go hc 2 (fun K hK => ?_))
      conv => whnf
      try simp only [nI_1]
      refine hK _ _ _ _ _ _ (Runs.less hc [0, 1, 3, 5, 7] rfl rfl rfl rfl (ih _ (by omega) fun q h2 => if e : q = i then by rw [e]; omega else hq q (by omega)))
    · refine ⟨fun c_ => absurd c_ (fun q => hz ((kGe0 hb1).mp q)), fun c_ => ?_⟩
      conv => whnf
      refine hK _ _ _ _ _ _ (go hc 6 (fun K hK => ?_))
      conv => whnf
      refine ⟨_, hr.C _ (by omega), Nat.le_of_ble_eq_true rfl, ?_⟩
      conv => whnf
      refine callee hc (r_cutEdges hr hc0 rfl rfl rfl (hS (List.any_eq_true.mpr ⟨_, gt_mem hil, decide_eq_true (by omega)⟩)) hba hbe ?_)
      intro h S hr
      conv => whnf
      refine h1 (List.any_eq_true.mpr ⟨_, gt_mem hil, decide_eq_true (by omega)⟩) h ⟨S, ?_⟩
      unfold sC
      rw [sl_id]
      exact hr
theorem ct_l {call : Callee} (hc : call = wpC sc (d + 3)) (hr : Rep W X h) (hc0 : c < 10) {a : V3} (hba : bdV RD a) (hbl : ∀ v ∈ W.1 (2 * c), bdV BD v) (hbe : ∀ v ∈ W.1 (2 * c + 1), bdV BD v) :
    ∀ (n i : Nat), i + n = (W.1 (2 * c)).length → (cutR (W.1 (2 * c)) (W.1 (2 * c + 1)) a (fl (W.1 (2 * c)) a n i)).2.length ≤ 48 →
    (∀ h, RepS (sC W c (cutR (W.1 (2 * c)) (W.1 (2 * c + 1)) a (fl (W.1 (2 * c)) a n i)).1 (cutR (W.1 (2 * c)) (W.1 (2 * c + 1)) a (fl (W.1 (2 * c)) a n i)).2) X h → Q (.inl none) h) →
    Runs (d + 3) call sc m_X0_cut Q 3 [(0, .ref (cid c)), (1, .long (Int64.ofInt a.1)), (3, .long (Int64.ofInt a.2.1)), (5, .long (Int64.ofInt a.2.2)), (7, .int (nI i))] [] h 0 0 := by
  have hl48 := hr.c48 (show 2 * c < 21 by omega)
  have hbd : ∀ v, bdV BD v → bdI 121500000000 (dot v a) := fun v hv => bd_dot hv hba
  intro n
  induction n with
  | zero =>
    intro i hi hS hQ
    unfold fl cutR at hQ hS
    refine go hc 5 (fun K hK => ?_)
    conv => whnf
    refine ⟨_, _, hr.C _ (by omega), rfl, ?_⟩
    conv => whnf
    refine ⟨_, hr.R _ (by omega), Nat.le_of_ble_eq_true rfl, ?_⟩
    conv => whnf
    refine callee hc (r_count hr (by omega) ?_)
    conv => whnf
    refine ⟨fun c_ => ?_, fun c_ => absurd (nI_le (by omega) (by omega)) c_⟩
    conv => whnf
    refine hK _ _ _ _ _ _ (go hc 2 (fun K hK => ?_))
    conv => whnf
    try simp only [nI_1]
    refine hK _ _ _ _ _ _ (Runs.less hc [0, 1, 3, 5, 7] rfl rfl rfl rfl (ct_e hc hr hc0 (fun e => by rw [if_pos e] at hS; exact hS) hba hbe (fun e => by rw [if_pos e] at hQ; exact hQ) (fun e => by rw [if_neg (by rw [e]; decide)] at hQ; exact hQ h (by rw [sC_id]; exact hr.toS)) (W.1 (2 * c + 1)).length 0 (by omega) (fun q hq => absurd hq (by omega))))
  | succ n ih =>
    intro i hi hS hQ
    have hil : i < (W.1 (2 * c)).length := by omega
    have hb1 := (hbd _ (hbl _ (gt_mem hil))).inL (by decide)
    unfold fl at hQ hS
    refine go hc 5 (fun K hK => ?_)
    conv => whnf
    refine ⟨_, _, hr.C _ (by omega), rfl, ?_⟩
    conv => whnf
    refine ⟨_, hr.R _ (by omega), Nat.le_of_ble_eq_true rfl, ?_⟩
    conv => whnf
    refine callee hc (r_count hr (by omega) ?_)
    conv => whnf
    refine ⟨fun c_ => absurd c_ (nI_ge hil (by omega)), fun c_ => ?_⟩
    conv => whnf
    refine hK _ _ _ _ _ _ (go hc 10 (fun K hK => ?_))
    conv => whnf
    refine ⟨_, _, hr.C _ (by omega), rfl, ?_⟩
    conv => whnf
    refine ⟨_, hr.R _ (by omega), Nat.le_of_ble_eq_true rfl, ?_⟩
    conv => whnf
    refine callee hc (r_product hr a (by omega) (by omega) rfl rfl rfl ?_)
    conv => whnf
    by_cases hz : dot (gt (W.1 (2 * c)) i) a = 0
    · rw [if_pos hz] at hQ hS
      refine ⟨fun c_ => ?_, fun c_ => absurd ((kEq0 hb1).mpr hz) c_⟩
      conv => whnf
      refine hK _ _ _ _ _ _ (go hc 2 (fun K hK => ?_))
      conv => whnf
      try simp only [nI_1]
      refine hK _ _ _ _ _ _ (Runs.less hc [0, 1, 3, 5, 7] rfl rfl rfl rfl (ih _ (by omega) hS hQ))
    · rw [if_neg hz] at hQ hS
      refine ⟨fun c_ => absurd c_ (fun q => hz ((kEq0 hb1).mp q)), fun c_ => ?_⟩
      conv => whnf
      refine hK _ _ _ _ _ _ (go hc 7 (fun K hK => ?_))
      conv => whnf
      refine ⟨_, hr.C _ (by omega), Nat.le_of_ble_eq_true rfl, ?_⟩
      conv => whnf
      refine callee hc (r_cutLine hr hc0 rfl rfl rfl hil (by unfold cutR clE at hS; rw [List.length_append, List.length_map, List.length_singleton] at hS; omega) hba hbl hbe ?_)
      intro h hr
      conv => whnf
      exact hQ h hr.toS
theorem r_cut (hr : Rep W X h) (hc0 : c < 10) (a : V3) {x y z : Int64} (hx : x = Int64.ofInt a.1) (hy : y = Int64.ofInt a.2.1) (hz : z = Int64.ofInt a.2.2) (hS : (cutF a (W.1 (2 * c), W.1 (2 * c + 1))).2.length ≤ 48) (hba : bdV RD a) (hbl : ∀ v ∈ W.1 (2 * c), bdV BD v) (hbe : ∀ v ∈ W.1 (2 * c + 1), bdV BD v)
    (hQ : ∀ h, RepS (sC W c (cutF a (W.1 (2 * c), W.1 (2 * c + 1))).1 (cutF a (W.1 (2 * c), W.1 (2 * c + 1))).2) X h → Q (.inl none) h) : wpC sc (d + 4) 6 [.ref (cid c), .long x, .long y, .long z] h Q := by
  subst hx; subst hy; subst hz
  refine enter rfl rfl (fun call hc => go hc 2 (fun K hK => ?_))
  conv => whnf
  try simp only [nI_1]
  refine hK _ _ _ _ _ _ (Runs.less hc [0, 1, 3, 5, 7] rfl rfl rfl rfl (ct_l (Q := qth _ Q) hc hr hc0 hba hbl hbe (W.1 (2 * c)).length 0 (by omega) hS hQ))
end CUT
