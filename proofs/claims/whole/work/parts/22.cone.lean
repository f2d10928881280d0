/-! THE CONES' METHODS: cone c has its lines in row 2 c, its edges in row 2 c + 1 -/
theorem mulB {x y A B : Int} (hx : -A ≤ x ∧ x ≤ A) (hy : -B ≤ y ∧ y ≤ B) : -(A * B) ≤ x * y ∧ x * y ≤ A * B := by
  have h1 : (x * y).natAbs ≤ A.natAbs * B.natAbs := by
    rw [Int.natAbs_mul]
    exact Nat.mul_le_mul (by omega) (by omega)
  have h2 : A * B = ((A.natAbs * B.natAbs : Nat) : Int) := by
    rw [Int.natCast_mul, Int.natAbs_of_nonneg (by omega), Int.natAbs_of_nonneg (by omega)]
  rw [h2]
  omega
def bdI (B a : Int) : Prop := -B ≤ a ∧ a ≤ B
def bdV (B : Int) (v : V3) : Prop := bdI B v.1 ∧ bdI B v.2.1 ∧ bdI B v.2.2
abbrev BD : Int := 15000000
abbrev RD : Int := 2700
theorem bdI.inL {B a : Int} (h : bdI B a) (hB : B < 9223372036854775808) : inL a := by
  have h1 := h.1; have h2 := h.2
  constructor <;> omega
theorem bdV.inV {B : Int} {v : V3} (h : bdV B v) (hB : B < 9223372036854775808) : inV v := ⟨h.1.inL hB, h.2.1.inL hB, h.2.2.inL hB⟩
theorem bdV.cmp {B : Int} {v : V3} (h : bdV B v) (k : Nat) : bdI B (cmp3 v k) := by
  match k with
  | 0 => exact h.1
  | 1 => exact h.2.1
  | _ + 2 => exact h.2.2
theorem bd_dot {A B : Int} {v u : V3} (h : bdV A v) (g : bdV B u) : bdI (3 * (A * B)) (dot v u) := by
  have h1 := mulB h.1 g.1; have h2 := mulB h.2.1 g.2.1; have h3 := mulB h.2.2 g.2.2
  unfold dot
  constructor <;> omega
theorem bd_lin {A B C D a b : Int} {v u : V3} (ha : bdI A a) (hb : bdI B b) (h : bdV C v) (g : bdV D u) : bdV (A * C + B * D) (lin a b v u) := by
  have h1 := mulB ha h.1; have h2 := mulB ha h.2.1; have h3 := mulB ha h.2.2
  have g1 := mulB hb g.1; have g2 := mulB hb g.2.1; have g3 := mulB hb g.2.2
  unfold lin
  refine ⟨⟨?_, ?_⟩, ⟨?_, ?_⟩, ⟨?_, ?_⟩⟩ <;> simp only <;> omega
theorem bdI.neg {B a : Int} (h : bdI B a) : bdI B (-a) := by
  have h1 := h.1; have h2 := h.2
  constructor <;> omega
theorem bdV.neg {B : Int} {v : V3} (h : bdV B v) : bdV B (neg3 v) := ⟨h.1.neg, h.2.1.neg, h.2.2.neg⟩
theorem bdV.mono {A B : Int} {v : V3} (h : bdV A v) (hAB : A ≤ B) : bdV B v := by
  have h1 := h.1.1; have h2 := h.1.2; have h3 := h.2.1.1; have h4 := h.2.1.2; have h5 := h.2.2.1; have h6 := h.2.2.2
  refine ⟨⟨?_, ?_⟩, ⟨?_, ?_⟩, ⟨?_, ?_⟩⟩ <;> omega
section CONE
variable {sc : Scr} {d : Nat} {W : AW} {X h : PH} {c : Nat} {Q : Out → PH → Prop}
theorem r_cclear (hr : Rep W X h) (hc0 : c < 10) (hQ : ∀ h, Rep (sl (sl W (2 * c) []) (2 * c + 1) []) X h → Q (.inl none) h) : wpC sc (d + 2) 1 [.ref (cid c)] h Q := by
  refine enter rfl rfl (fun call hc => go hc 7 (fun K hK => ?_))
  conv => whnf
  refine ⟨_, _, hr.C _ (by omega), rfl, ?_⟩
  conv => whnf
  refine ⟨_, hr.R _ (by omega), Nat.le_of_ble_eq_true rfl, ?_⟩
  conv => whnf
  refine callee hc (r_clear hr (by omega) ?_)
  intro h hr
  conv => whnf
  refine ⟨_, _, hr.C _ (by omega), rfl, ?_⟩
  conv => whnf
  refine ⟨_, hr.R _ (by omega), Nat.le_of_ble_eq_true rfl, ?_⟩
  conv => whnf
  refine callee hc (r_clear hr (by omega) ?_)
  intro h hr
  conv => whnf
  exact hQ h hr
theorem cap_l {c : Nat} (h : c < 10) : capL (2 * c) = 3 := by
  unfold capL capJ
  rw [if_neg (by omega), if_pos (by omega)]
theorem cap_e {c : Nat} (h : c < 10) : capL (2 * c + 1) = 48 := by
  unfold capL capJ
  rw [if_neg (by omega), if_neg (by omega)]
theorem cap_s : capL 20 = 48 := rfl
abbrev e3 : List V3 := [(1, 0, 0), (0, 1, 0), (0, 0, 1)]
theorem sl_comm (W : AW) {j k : Nat} (h : j ≠ k) (l m : List V3) : sl (sl W j l) k m = sl (sl W k m) j l := by
  unfold sl
  refine Prod.ext (funext fun q => ?_) rfl
  by_cases h1 : q = j
  · subst h1
    show va_up (va_up W.1 q l) k m q = va_up (va_up W.1 k m) q l q
    rw [va_up_ne _ _ h, va_up_self, va_up_self]
  · by_cases h2 : q = k
    · subst h2
      show va_up (va_up W.1 j l) q m q = va_up (va_up W.1 q m) j l q
      rw [va_up_self, va_up_ne _ _ h1, va_up_self]
    · show va_up (va_up W.1 j l) k m q = va_up (va_up W.1 k m) j l q
      rw [va_up_ne _ _ h2, va_up_ne _ _ h1, va_up_ne _ _ h1, va_up_ne _ _ h2]
/-- the cone's lines and edges -/
def sC (W : AW) (c : Nat) (L E : List V3) : AW := sl (sl W (2 * c) L) (2 * c + 1) E
theorem sC_l (W : AW) (c : Nat) (L E : List V3) : (sC W c L E).1 (2 * c) = L := by
  unfold sC
  rw [sl_ne _ _ (by omega), sl_self]
theorem sC_e (W : AW) (c : Nat) (L E : List V3) : (sC W c L E).1 (2 * c + 1) = E := sl_self _ _ _
theorem sC_ne (W : AW) {c k : Nat} (L E : List V3) (h1 : k ≠ 2 * c) (h2 : k ≠ 2 * c + 1) : (sC W c L E).1 k = W.1 k := by
  unfold sC
  rw [sl_ne _ _ h2, sl_ne _ _ h1]
theorem sl_sC_l (W : AW) (c : Nat) (L E L' : List V3) : sl (sC W c L E) (2 * c) L' = sC W c L' E := by
  unfold sC
  rw [sl_comm _ (by omega), sl_sl]
theorem sl_sC_e (W : AW) (c : Nat) (L E E' : List V3) : sl (sC W c L E) (2 * c + 1) E' = sC W c L E' := sl_sl _ _ _ _
theorem sC_sC (W : AW) (c : Nat) (L E L' E' : List V3) : sC (sC W c L E) c L' E' = sC W c L' E' := by
  unfold sC
  rw [sl_comm _ (by omega), sl_sl, sl_comm _ (by omega), sl_sl]
theorem sC_id (W : AW) (c : Nat) : sC W c (W.1 (2 * c)) (W.1 (2 * c + 1)) = W := by
  unfold sC
  rw [sl_id, sl_id]
theorem r_startAll (hr : Rep W X h) (hc0 : c < 10) (hQ : ∀ h, Rep (sC W c e3 []) X h → Q (.inl none) h) : wpC sc (d + 3) 2 [.ref (cid c)] h Q := by
  have hcap := cap_l hc0
  refine enter rfl rfl (fun call hc => go hc 21 (fun K hK => ?_))
  conv => whnf
  refine ⟨_, hr.C _ (by omega), Nat.le_of_ble_eq_true rfl, ?_⟩
  conv => whnf
  refine callee hc (r_cclear hr (by omega) ?_)
  intro h hr
  change Rep (sC W c [] []) X h at hr
  conv => whnf
  refine ⟨_, _, hr.C _ (by omega), rfl, ?_⟩
  conv => whnf
  refine ⟨_, hr.R _ (by omega), Nat.le_of_ble_eq_true rfl, ?_⟩
  conv => whnf
  refine callee hc (r_add hr (1, 0, 0) (by omega) (by rw [sC_l, hcap]; decide) rfl rfl rfl ?_)
  intro h hr
  rw [sC_l, sl_sC_l] at hr
  conv => whnf
  refine ⟨_, _, hr.C _ (by omega), rfl, ?_⟩
  conv => whnf
  refine ⟨_, hr.R _ (by omega), Nat.le_of_ble_eq_true rfl, ?_⟩
  conv => whnf
  refine callee hc (r_add hr (0, 1, 0) (by omega) (by rw [sC_l, hcap]; decide) rfl rfl rfl ?_)
  intro h hr
  rw [sC_l, sl_sC_l] at hr
  conv => whnf
  refine ⟨_, _, hr.C _ (by omega), rfl, ?_⟩
  conv => whnf
  refine ⟨_, hr.R _ (by omega), Nat.le_of_ble_eq_true rfl, ?_⟩
  conv => whnf
  refine callee hc (r_add hr (0, 0, 1) (by omega) (by rw [sC_l, hcap]; decide) rfl rfl rfl ?_)
  intro h hr
  rw [sC_l, sl_sC_l] at hr
  conv => whnf
  exact hQ h hr
/-- of generators: c is odd -/
def rayV (c : Nat) (v : V3) : Bool := decide (c % 2 = 1 ∧ v.1 = 0)
def wtV (c : Nat) (v : V3) : Int := if c % 2 = 1 ∧ 0 < v.1 then v.1 else 1
def bI01 : Bool → Int32
  | true => 1
  | false => 0
theorem r_isRay (hr : Rep W X h) {i : Nat} (hc0 : c < 10) (hi : i < (W.1 (2 * c + 1)).length) (hb : inV (gt (W.1 (2 * c + 1)) i)) (hQ : Q (.inl (some (.int (bI01 (rayV c (gt (W.1 (2 * c + 1)) i)))))) h) : wpC sc (d + 2) 13 [.ref (cid c), .int (nI i)] h Q := by
  unfold rayV at hQ
  refine enter rfl rfl (fun call hc => go hc 3 (fun K hK => ?_))
  conv => whnf
  refine ⟨_, _, hr.C _ (by omega), rfl, ?_⟩
  conv => whnf
  by_cases h1 : c % 2 = 1
  · rw [h1]
    refine ⟨fun c_ => absurd c_ (nI_ne0 (by omega) (by omega)), fun c_ => ?_⟩
    conv => whnf
    refine hK _ _ _ _ _ _ (go hc 8 (fun K hK => ?_))
    conv => whnf
    refine ⟨_, _, hr.C _ (by omega), rfl, ?_⟩
    conv => whnf
    refine ⟨_, hr.R _ (by omega), Nat.le_of_ble_eq_true rfl, ?_⟩
    conv => whnf
    refine callee hc (r_at0 hr (by omega) (by omega) ?_)
    conv => whnf
    by_cases h2 : (gt (W.1 (2 * c + 1)) i).1 = 0
    · rw [decide_eq_true ⟨h1, h2⟩] at hQ
      refine ⟨fun c_ => ?_, fun c_ => absurd ((kEq0 hb.1).mpr h2) c_⟩
      conv => whnf
      refine hK _ _ _ _ _ _ (go hc 3 (fun K hK => ?_))
      conv => whnf
      exact ⟨Or.inr rfl, hQ⟩
    · rw [decide_eq_false (fun q => h2 q.2)] at hQ
      refine ⟨fun c_ => absurd c_ (fun q => h2 ((kEq0 hb.1).mp q)), fun c_ => ?_⟩
      conv => whnf
      refine hK _ _ _ _ _ _ (go hc 2 (fun K hK => ?_))
      conv => whnf
      exact ⟨Or.inl rfl, hQ⟩
  · rw [decide_eq_false (fun q => h1 q.1)] at hQ
    rw [show c % 2 = 0 by omega]
    refine ⟨fun c_ => ?_, fun c_ => absurd (nI_0) c_⟩
    conv => whnf
    refine hK _ _ _ _ _ _ (go hc 2 (fun K hK => ?_))
    conv => whnf
    exact ⟨Or.inl rfl, hQ⟩
theorem r_weight (hr : Rep W X h) {i : Nat} (hc0 : c < 10) (hi : i < (W.1 (2 * c + 1)).length) (hb : inV (gt (W.1 (2 * c + 1)) i)) (hQ : Q (.inl (some (.long (Int64.ofInt (wtV c (gt (W.1 (2 * c + 1)) i)))))) h) : wpC sc (d + 2) 14 [.ref (cid c), .int (nI i)] h Q := by
  unfold wtV at hQ
  refine enter rfl rfl (fun call hc => go hc 3 (fun K hK => ?_))
  conv => whnf
  refine ⟨_, _, hr.C _ (by omega), rfl, ?_⟩
  conv => whnf
  by_cases h1 : c % 2 = 1
  · rw [h1]
    refine ⟨fun c_ => absurd c_ (nI_ne0 (by omega) (by omega)), fun c_ => ?_⟩
    conv => whnf
    refine hK _ _ _ _ _ _ (go hc 8 (fun K hK => ?_))
    conv => whnf
    refine ⟨_, _, hr.C _ (by omega), rfl, ?_⟩
    conv => whnf
    refine ⟨_, hr.R _ (by omega), Nat.le_of_ble_eq_true rfl, ?_⟩
    conv => whnf
    refine callee hc (r_at0 hr (by omega) (by omega) ?_)
    conv => whnf
    by_cases h2 : 0 < (gt (W.1 (2 * c + 1)) i).1
    · rw [if_pos ⟨h1, h2⟩] at hQ
      refine ⟨fun c_ => absurd c_ (fun q => by have := (kLe0 hb.1).mp q; omega), fun c_ => ?_⟩
      conv => whnf
      refine hK _ _ _ _ _ _ (go hc 7 (fun K hK => ?_))
      conv => whnf
      refine ⟨_, _, hr.C _ (by omega), rfl, ?_⟩
      conv => whnf
      refine ⟨_, hr.R _ (by omega), Nat.le_of_ble_eq_true rfl, ?_⟩
      conv => whnf
      refine callee hc (r_at0 hr (by omega) (by omega) ?_)
      conv => whnf
      exact hQ
    · rw [if_neg (fun q => h2 q.2)] at hQ
      refine ⟨fun c_ => ?_, fun c_ => absurd ((kLe0 hb.1).mpr (by omega)) c_⟩
      conv => whnf
      refine hK _ _ _ _ _ _ (go hc 2 (fun K hK => ?_))
      conv => whnf
      exact hQ
  · rw [if_neg (fun q => h1 q.1)] at hQ
    rw [show c % 2 = 0 by omega]
    refine ⟨fun c_ => ?_, fun c_ => absurd (nI_0) c_⟩
    conv => whnf
    refine hK _ _ _ _ _ _ (go hc 2 (fun K hK => ?_))
    conv => whnf
    exact hQ
end CONE
