/-! mixing rows -/
def lin (a b : Int) (v u : V3) : V3 := (a * v.1 + b * u.1, a * v.2.1 + b * u.2.1, a * v.2.2 + b * u.2.2)
def gcd3 (s : V3) : Nat := Nat.gcd (Nat.gcd s.1.natAbs s.2.1.natAbs) s.2.2.natAbs
def div3 (s : V3) (g : Int) : V3 := (s.1.tdiv g, s.2.1.tdiv g, s.2.2.tdiv g)
def mixV (a b : Int) (v u : V3) : V3 := if gcd3 (lin a b v u) = 0 then v else div3 (lin a b v u) (gcd3 (lin a b v u) : Int)
def inV (s : V3) : Prop := inL s.1 ∧ inL s.2.1 ∧ inL s.2.2
theorem oI_l1 (a b : Int) (v u : V3) : Int64.ofInt a * Int64.ofInt v.1 + Int64.ofInt b * Int64.ofInt u.1 = Int64.ofInt (lin a b v u).1 := by
  unfold lin
  rw [Int64.ofInt_add, Int64.ofInt_mul, Int64.ofInt_mul]
theorem oI_l2 (a b : Int) (v u : V3) : Int64.ofInt a * Int64.ofInt v.2.1 + Int64.ofInt b * Int64.ofInt u.2.1 = Int64.ofInt (lin a b v u).2.1 := by
  unfold lin
  rw [Int64.ofInt_add, Int64.ofInt_mul, Int64.ofInt_mul]
theorem oI_l3 (a b : Int) (v u : V3) : Int64.ofInt a * Int64.ofInt v.2.2 + Int64.ofInt b * Int64.ofInt u.2.2 = Int64.ofInt (lin a b v u).2.2 := by
  unfold lin
  rw [Int64.ofInt_add, Int64.ofInt_mul, Int64.ofInt_mul]
theorem gcd_inL {a b : Int} (ha : inL a) (hb : inL b) : inL ((Nat.gcd a.natAbs b.natAbs : Nat) : Int) := by
  have h1 : Nat.gcd a.natAbs b.natAbs = 0 ∨ Nat.gcd a.natAbs b.natAbs ≤ a.natAbs ∨ Nat.gcd a.natAbs b.natAbs ≤ b.natAbs := by
    by_cases h : a.natAbs = 0
    · by_cases h2 : b.natAbs = 0
      · left; rw [h, h2]; rfl
      · exact Or.inr (Or.inr (Nat.gcd_le_right _ (by omega)))
    · exact Or.inr (Or.inl (Nat.gcd_le_left _ (by omega)))
  have := ha.1; have := ha.2; have := hb.1; have := hb.2
  constructor <;> omega
section MIX
variable {sc : Scr} {d : Nat} {W : AW} {X h : PH} {j : Nat} {Q : Out → PH → Prop}
theorem r_mix (hr : Rep W X h) {i k o : Nat} {a b : Int} {a' b' : Int64} (hj : j < 21) (hi : i < (W.1 j).length) (ho : o < 21) (hk : k < (W.1 o).length) (ha : a' = Int64.ofInt a) (hb : b' = Int64.ofInt b) (hs : inV (lin a b (gt (W.1 j) i) (gt (W.1 o) k))) (hQ : ∀ h, Rep (sl W j ((W.1 j).set i (mixV a b (gt (W.1 j) i) (gt (W.1 o) k)))) X h → Q (.inl none) h) : wpC sc (d + 2) 29 [.ref (rid j), .int (nI i), .long a', .long b', .ref (rid o), .int (nI k)] h Q := by
  subst ha; subst hb
  generalize hv : gt (W.1 j) i = v at hs hQ
  generalize hu : gt (W.1 o) k = u at hs hQ
  have hg1 := gcd_inL hs.1 hs.2.1
  have hg2 := gcd_inL hg1 hs.2.2
  have e2 : Nat.gcd ((Nat.gcd (lin a b v u).1.natAbs (lin a b v u).2.1.natAbs : Nat) : Int).natAbs (lin a b v u).2.2.natAbs = gcd3 (lin a b v u) := rfl
  rw [e2] at hg2
  refine enter rfl rfl (fun call hc => go hc 52 (fun K hK => ?_))
  conv => whnf
  refine ⟨_, hr.R _ (by omega), Nat.le_of_ble_eq_true rfl, ?_⟩
  conv => whnf
  refine callee hc (r_at0 hr (by omega) (by omega) ?_)
  conv => whnf
  refine ⟨_, hr.R _ (by omega), Nat.le_of_ble_eq_true rfl, ?_⟩
  conv => whnf
  refine callee hc (r_at0 hr (by omega) (by omega) ?_)
  conv => whnf
  refine ⟨_, hr.R _ (by omega), Nat.le_of_ble_eq_true rfl, ?_⟩
  conv => whnf
  refine callee hc (r_at1 hr (by omega) (by omega) ?_)
  conv => whnf
  refine ⟨_, hr.R _ (by omega), Nat.le_of_ble_eq_true rfl, ?_⟩
  conv => whnf
  refine callee hc (r_at1 hr (by omega) (by omega) ?_)
  conv => whnf
  refine ⟨_, hr.R _ (by omega), Nat.le_of_ble_eq_true rfl, ?_⟩
  conv => whnf
  refine callee hc (r_at2 hr (by omega) (by omega) ?_)
  conv => whnf
  refine ⟨_, hr.R _ (by omega), Nat.le_of_ble_eq_true rfl, ?_⟩
  conv => whnf
  refine callee hc (r_at2 hr (by omega) (by omega) ?_)
  rw [hv, hu, oI_l1, oI_l2]
  conv => whnf
  rw [oI_l3]
  conv => whnf
  refine ⟨Nat.le_of_ble_eq_true rfl, ?_⟩
  conv => whnf
  refine callee hc (r_gcd hs.1 hs.2.1 ?_)
  conv => whnf
  refine ⟨Nat.le_of_ble_eq_true rfl, ?_⟩
  conv => whnf
  refine callee hc (r_gcd hg1 hs.2.2 ?_)
  rw [e2]
  conv => whnf
  by_cases h0 : gcd3 (lin a b v u) = 0
  · refine ⟨fun c => ?_, fun c => absurd ((kLe0 hg2).mpr (by omega)) c⟩
    conv => whnf
    refine hK _ _ _ _ _ _ (go hc 1 (fun K hK => ?_))
    conv => whnf
    have e : (W.1 j).set i (mixV a b v u) = W.1 j := by
      unfold mixV
      rw [if_pos h0, ← hv]
      refine gt_ext (List.length_set) fun q _ => ?_
      rw [gt_set hi]
      split
      · rename_i h; rw [h]
      · rfl
    rw [e, sl_id] at hQ
    exact hQ h hr
  · have hz : ¬ Int64.ofInt (gcd3 (lin a b v u) : Int) = 0 := fun q => h0 (by have := (oI_eq hg2 inL_0).mp q; omega)
    have em : mixV a b v u = div3 (lin a b v u) (gcd3 (lin a b v u) : Int) := by
      unfold mixV
      rw [if_neg h0]
    refine ⟨fun c => absurd c (fun q => h0 (by have := (kLe0 hg2).mp q; omega)), fun c => ?_⟩
    conv => whnf
    refine hK _ _ _ _ _ _ (go hc 13 (fun K hK => ?_))
    conv => whnf
    refine ⟨hz, ?_⟩
    conv => whnf
    refine ⟨hz, ?_⟩
    conv => whnf
    refine ⟨hz, ?_⟩
    conv => whnf
    refine ⟨_, hr.R _ (by omega), Nat.le_of_ble_eq_true rfl, ?_⟩
    conv => whnf
    refine callee hc (r_write hr (mixV a b v u) hj hi (by rw [em]; exact oI_div hs.1 hg2) (by rw [em]; exact oI_div hs.2.1 hg2) (by rw [em]; exact oI_div hs.2.2 hg2) ?_)
    intro h hr
    conv => whnf
    exact hQ h hr
end MIX
