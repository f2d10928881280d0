/-! THE ROWS' METHODS, by lists -/
section ROWS2
variable {sc : Scr} {d : Nat} {W : AW} {X h : PH} {j : Nat} {Q : Out → PH → Prop}
theorem r_product (hr : Rep W X h) {i : Nat} (u : V3) {a b c : Int64} (hj : j < 21) (hi : i < (W.1 j).length) (ha : a = Int64.ofInt u.1) (hb : b = Int64.ofInt u.2.1) (hc0 : c = Int64.ofInt u.2.2) (hQ : Q (.inl (some (.long (Int64.ofInt (dot (gt (W.1 j) i) u))))) h) : wpC sc (d + 2) 28 [.ref (rid j), .int (nI i), .long a, .long b, .long c] h Q := by
  subst ha; subst hb; subst hc0
  refine enter rfl rfl (fun call hc => go hc 21 (fun K hK => ?_))
  conv => whnf
  refine ⟨_, hr.R _ (by omega), Nat.le_of_ble_eq_true rfl, ?_⟩
  conv => whnf
  refine callee hc (r_at0 hr (by omega) (by omega) ?_)
  conv => whnf
  refine ⟨_, hr.R _ (by omega), Nat.le_of_ble_eq_true rfl, ?_⟩
  conv => whnf
  refine callee hc (r_at1 hr (by omega) (by omega) ?_)
  conv => whnf
  refine ⟨_, hr.R _ (by omega), Nat.le_of_ble_eq_true rfl, ?_⟩
  conv => whnf
  refine callee hc (r_at2 hr (by omega) (by omega) ?_)
  conv => whnf
  rw [oI_dot]
  exact hQ
theorem r_negate (hr : Rep W X h) {i : Nat} (hj : j < 21) (hi : i < (W.1 j).length) (hQ : ∀ h, Rep (sl W j ((W.1 j).set i (neg3 (gt (W.1 j) i)))) X h → Q (.inl none) h) : wpC sc (d + 2) 27 [.ref (rid j), .int (nI i)] h Q := by
  refine enter rfl rfl (fun call hc => go hc 19 (fun K hK => ?_))
  conv => whnf
  refine ⟨_, hr.R _ (by omega), Nat.le_of_ble_eq_true rfl, ?_⟩
  conv => whnf
  refine callee hc (r_at0 hr (by omega) (by omega) ?_)
  conv => whnf
  refine ⟨_, hr.R _ (by omega), Nat.le_of_ble_eq_true rfl, ?_⟩
  conv => whnf
  refine callee hc (r_at1 hr (by omega) (by omega) ?_)
  conv => whnf
  refine ⟨_, hr.R _ (by omega), Nat.le_of_ble_eq_true rfl, ?_⟩
  conv => whnf
  refine callee hc (r_at2 hr (by omega) (by omega) ?_)
  conv => whnf
  refine ⟨_, hr.R _ (by omega), Nat.le_of_ble_eq_true rfl, ?_⟩
  conv => whnf
  refine callee hc (r_write hr (neg3 (gt (W.1 j) i)) hj hi (Int64.ofInt_neg _).symm (Int64.ofInt_neg _).symm (Int64.ofInt_neg _).symm ?_)
  intro h hr
  conv => whnf
  exact hQ h hr
theorem r_swap (hr : Rep W X h) {i k : Nat} (hj : j < 21) (hi : i < (W.1 j).length) (hk : k < (W.1 j).length) (hQ : ∀ h, Rep (sl W j (((W.1 j).set i (gt (W.1 j) k)).set k (gt (W.1 j) i))) X h → Q (.inl none) h) : wpC sc (d + 2) 26 [.ref (rid j), .int (nI i), .int (nI k)] h Q := by
  refine enter rfl rfl (fun call hc => go hc 37 (fun K hK => ?_))
  conv => whnf
  refine ⟨_, hr.R _ (by omega), Nat.le_of_ble_eq_true rfl, ?_⟩
  conv => whnf
  refine callee hc (r_at0 hr (by omega) (by omega) ?_)
  conv => whnf
  refine ⟨_, hr.R _ (by omega), Nat.le_of_ble_eq_true rfl, ?_⟩
  conv => whnf
  refine callee hc (r_at1 hr (by omega) (by omega) ?_)
  conv => whnf
  refine ⟨_, hr.R _ (by omega), Nat.le_of_ble_eq_true rfl, ?_⟩
  conv => whnf
  refine callee hc (r_at2 hr (by omega) (by omega) ?_)
  conv => whnf
  refine ⟨_, hr.R _ (by omega), Nat.le_of_ble_eq_true rfl, ?_⟩
  conv => whnf
  refine callee hc (r_at0 hr (by omega) (by omega) ?_)
  conv => whnf
  refine ⟨_, hr.R _ (by omega), Nat.le_of_ble_eq_true rfl, ?_⟩
  conv => whnf
  refine callee hc (r_at1 hr (by omega) (by omega) ?_)
  conv => whnf
  refine ⟨_, hr.R _ (by omega), Nat.le_of_ble_eq_true rfl, ?_⟩
  conv => whnf
  refine callee hc (r_at2 hr (by omega) (by omega) ?_)
  conv => whnf
  refine ⟨_, hr.R _ (by omega), Nat.le_of_ble_eq_true rfl, ?_⟩
  conv => whnf
  refine callee hc (r_write hr (gt (W.1 j) k) hj hi rfl rfl rfl ?_)
  intro h hr
  conv => whnf
  refine ⟨_, hr.R _ (by omega), Nat.le_of_ble_eq_true rfl, ?_⟩
  conv => whnf
  refine callee hc (r_write hr (gt (W.1 j) i) hj (by rw [sl_self, List.length_set]; exact hk) rfl rfl rfl ?_)
  intro h hr
  rw [sl_self, sl_sl] at hr
  conv => whnf
  exact hQ h hr
end ROWS2
/-! the greatest common divisor -/
section GCD
variable {sc : Scr} {d : Nat} {h : PH} {Q : Out → PH → Prop}
theorem gcd_step {call : Callee} (hc : call = wpC sc d) {o1 o2 : Int64} {x y s : Nat} (hx : x < 9223372036854775808) (h0 : 0 < y) (hyb : y < 9223372036854775808) (hs : s < 1000) (k : Runs d call sc m_X3_commonDivisor Q 31 [(0, .long o1), (2, .long o2), (4, .long (lN y)), (6, .long (lN (x % y))), (8, .int (nI (s + 1)))] [] h 0 0) : Runs d call sc m_X3_commonDivisor Q 31 [(0, .long o1), (2, .long o2), (4, .long (lN x)), (6, .long (lN y)), (8, .int (nI s))] [] h 0 0 := by
  have hy0 : ¬ lN y = 0 := fun q => by have := (pk_lEQ hyb (show 0 < 2 ^ 63 by decide)).mp q; omega
  refine go hc 3 (fun K hK => ?_)
  conv => whnf
  refine ⟨fun c => absurd c (nI_ge hs (show 1000 < 2 ^ 31 by decide)), fun c => ?_⟩
  conv => whnf
  refine hK _ _ _ _ _ _ (go hc 4 (fun K hK => ?_))
  conv => whnf
  refine ⟨fun c => absurd c (fun q => hy0 ((lg_cmp_eq _ _).mp q)), fun c => ?_⟩
  conv => whnf
  refine hK _ _ _ _ _ _ (go hc 10 (fun K hK => ?_))
  conv => whnf
  refine ⟨hy0, ?_⟩
  rw [pk_lRem hx h0 hyb]
  conv => whnf
  try simp only [nI_1]
  refine hK _ _ _ _ _ _ (Runs.less hc [0, 2, 4, 6, 8] rfl rfl rfl rfl k)
theorem gcd_end {call : Callee} (hc : call = wpC sc d) {o1 o2 : Int64} {x s : Nat} (hs : s < 1000) (hQ : Q (.inl (some (.long (lN x)))) h) : Runs d call sc m_X3_commonDivisor Q 31 [(0, .long o1), (2, .long o2), (4, .long (lN x)), (6, .long (lN 0)), (8, .int (nI s))] [] h 0 0 := by
  refine go hc 3 (fun K hK => ?_)
  conv => whnf
  refine ⟨fun c => absurd c (nI_ge hs (show 1000 < 2 ^ 31 by decide)), fun c => ?_⟩
  conv => whnf
  refine hK _ _ _ _ _ _ (go hc 4 (fun K hK => ?_))
  conv => whnf
  refine ⟨fun c => ?_, fun c => absurd ((lg_cmp_eq _ _).mpr rfl) c⟩
  conv => whnf
  refine hK _ _ _ _ _ _ (go hc 2 (fun K hK => ?_))
  conv => whnf
  exact hQ
theorem gcd_loop {call : Callee} (hc : call = wpC sc d) {o1 o2 : Int64} : ∀ (k x y s : Nat), x < 9223372036854775808 → y < 2 ^ k → k ≤ 63 → s + 2 * k < 1000 → Q (.inl (some (.long (lN (Nat.gcd x y))))) h → Runs d call sc m_X3_commonDivisor Q 31 [(0, .long o1), (2, .long o2), (4, .long (lN x)), (6, .long (lN y)), (8, .int (nI s))] [] h 0 0 := by
  intro k
  induction k with
  | zero =>
    intro x y s hx hy _ hs hQ
    obtain rfl : y = 0 := by simpa using hy
    rw [Nat.gcd_zero_right] at hQ
    exact gcd_end hc (by omega) hQ
  | succ k ih =>
    intro x y s hx hy hk hs hQ
    have hyb : y < 9223372036854775808 := Nat.lt_of_lt_of_le hy (Nat.le_trans (Nat.pow_le_pow_right (by omega) hk) (by decide))
    by_cases h0 : y = 0
    · subst h0
      rw [Nat.gcd_zero_right] at hQ
      exact gcd_end hc (by omega) hQ
    have h0 : 0 < y := by omega
    refine gcd_step hc hx h0 hyb (by omega) ?_
    have hr : x % y < y := Nat.mod_lt _ h0
    rw [Nat.gcd_comm, Nat.gcd_rec, Nat.gcd_comm] at hQ
    by_cases h1 : x % y = 0
    · rw [h1]
      rw [h1, Nat.gcd_zero_right] at hQ
      exact gcd_end hc (by omega) hQ
    have h1 : 0 < x % y := by omega
    refine gcd_step hc hyb h1 (by omega) (by omega) ?_
    rw [Nat.gcd_comm, Nat.gcd_rec, Nat.gcd_comm] at hQ
    refine ih _ _ _ (by omega) ?_ (by omega) (by omega) hQ
    have h2 : y % (x % y) < x % y := Nat.mod_lt _ h1
    have h3 : y % (x % y) + (x % y) ≤ y := by
      have h4 := Nat.div_add_mod y (x % y)
      have h5 : 1 ≤ y / (x % y) := (Nat.le_div_iff_mul_le h1).mpr (by omega)
      have h6 : (x % y) * 1 ≤ (x % y) * (y / (x % y)) := Nat.mul_le_mul_left _ h5
      omega
    rw [Nat.pow_succ] at hy
    omega
theorem oI_abs {a : Int} (h : 0 ≤ a) : Int64.ofInt a = lN a.natAbs := by
  rw [← oI_nat]; congr 1; omega
theorem oI_abs' {a : Int} (h : a < 0) : -Int64.ofInt a = lN a.natAbs := by
  rw [← oI_nat, ← Int64.ofInt_neg]; congr 1; omega
theorem r_gcd {a b : Int} (ha : inL a) (hb : inL b) (hQ : Q (.inl (some (.long (Int64.ofInt ((Nat.gcd a.natAbs b.natAbs : Nat) : Int))))) h) : wpC sc (d + 1) 73 [.long (Int64.ofInt a), .long (Int64.ofInt b)] h Q := by
  have hA : a.natAbs < 9223372036854775808 := by have := ha.1; have := ha.2; omega
  have hB : b.natAbs < 2 ^ 63 := by have := hb.1; have := hb.2; omega
  rw [oI_nat] at hQ
  refine enter rfl rfl (fun call hc => go hc 4 (fun K hK => ?_))
  conv => whnf
  by_cases h1 : 0 ≤ a
  · refine ⟨fun c => ?_, fun c => absurd ((kGe0 ha).mpr h1) c⟩
    conv => whnf
    refine hK _ _ _ _ _ _ (go hc 6 (fun K hK => ?_))
    conv => whnf
    rw [oI_abs h1]
    by_cases h2 : 0 ≤ b
    · refine ⟨fun c => ?_, fun c => absurd ((kGe0 hb).mpr h2) c⟩
      conv => whnf
      refine hK _ _ _ _ _ _ (go hc 4 (fun K hK => ?_))
      conv => whnf
      rw [oI_abs h2]
      try simp only [nI_1]
      refine hK _ _ _ _ _ _ (Runs.less hc [0, 2, 4, 6, 8] rfl rfl rfl rfl (gcd_loop hc 63 _ _ 0 hA hB (by decide) (by decide) hQ))
    · refine ⟨fun c => absurd c (fun q => h2 ((kGe0 hb).mp q)), fun c => ?_⟩
      conv => whnf
      refine hK _ _ _ _ _ _ (go hc 6 (fun K hK => ?_))
      conv => whnf
      rw [oI_abs' (by omega : b < 0)]
      try simp only [nI_1]
      refine hK _ _ _ _ _ _ (Runs.less hc [0, 2, 4, 6, 8] rfl rfl rfl rfl (gcd_loop hc 63 _ _ 0 hA hB (by decide) (by decide) hQ))
  · refine ⟨fun c => absurd c (fun q => h1 ((kGe0 ha).mp q)), fun c => ?_⟩
    conv => whnf
    refine hK _ _ _ _ _ _ (go hc 8 (fun K hK => ?_))
    conv => whnf
    rw [oI_abs' (by omega : a < 0)]
    by_cases h2 : 0 ≤ b
    · refine ⟨fun c => ?_, fun c => absurd ((kGe0 hb).mpr h2) c⟩
      conv => whnf
      refine hK _ _ _ _ _ _ (go hc 4 (fun K hK => ?_))
      conv => whnf
      rw [oI_abs h2]
      try simp only [nI_1]
      refine hK _ _ _ _ _ _ (Runs.less hc [0, 2, 4, 6, 8] rfl rfl rfl rfl (gcd_loop hc 63 _ _ 0 hA hB (by decide) (by decide) hQ))
    · refine ⟨fun c => absurd c (fun q => h2 ((kGe0 hb).mp q)), fun c => ?_⟩
      conv => whnf
      refine hK _ _ _ _ _ _ (go hc 6 (fun K hK => ?_))
      conv => whnf
      rw [oI_abs' (by omega : b < 0)]
      try simp only [nI_1]
      refine hK _ _ _ _ _ _ (Runs.less hc [0, 2, 4, 6, 8] rfl rfl rfl rfl (gcd_loop hc 63 _ _ 0 hA hB (by decide) (by decide) hQ))
end GCD
