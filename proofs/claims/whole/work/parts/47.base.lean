/-! THE REFERENCE's METHODS: numbers and vectors -/
def prm (v : V3) : V3 := if 1 < gcd3 v then div3 v (gcd3 v : Int) else v
def xp (u v : V3) : V3 := (u.2.1 * v.2.2 - u.2.2 * v.2.1, u.2.2 * v.1 - u.1 * v.2.2, u.1 * v.2.1 - u.2.1 * v.1)
section EBASE
variable {sc : Scr} {d : Nat} {m : MM} {D Z h : PH} {Q : Out → PH → Prop}
theorem ed_loop {call : Callee} (hc : call = wpC sc d) {o1 o2 : Int64} : ∀ (y x : Nat), x < 9223372036854775808 → y < 9223372036854775808 → Q (.inl (some (.long (lN (Nat.gcd x y))))) h →
    Runs d call sc m_X4_divisor Q 28 [(0, .long o1), (2, .long o2), (4, .long (lN x)), (6, .long (lN y))] [] h 0 0 := by
  intro y
  induction y using Nat.strongRecOn with
  | ind y ih =>
    intro x hx hyb hQ
    by_cases h0 : y = 0
    · subst h0
      rw [Nat.gcd_zero_right] at hQ
      refine go hc 4 (fun K hK => ?_)
      conv => whnf
      refine ⟨fun c_ => ?_, fun c_ => absurd ((lg_cmp_eq _ _).mpr rfl) c_⟩
      conv => whnf
      refine hK _ _ _ _ _ _ (go hc 2 (fun K hK => ?_))
      conv => whnf
      exact hQ
    · have hy0 : ¬ lN y = 0 := fun q => by have := (pk_lEQ hyb (show 0 < 2 ^ 63 by decide)).mp q; omega
      have hr : x % y < y := Nat.mod_lt _ (by omega)
      rw [Nat.gcd_comm, Nat.gcd_rec, Nat.gcd_comm] at hQ
      refine go hc 4 (fun K hK => ?_)
      conv => whnf
      refine ⟨fun c_ => absurd c_ (fun q => hy0 ((lg_cmp_eq _ _).mp q)), fun c_ => ?_⟩
      conv => whnf
      refine hK _ _ _ _ _ _ (go hc 9 (fun K hK => ?_))
      conv => whnf
      refine ⟨hy0, ?_⟩
      rw [pk_lRem hx (by omega) hyb]
      conv => whnf
      try simp only [nI_1]
      refine hK _ _ _ _ _ _ (Runs.less hc [0, 2, 4, 6] rfl rfl rfl rfl (ih _ hr y hyb (by omega) hQ))
theorem e_divisor {a b : Int} (ha : inL a) (hb : inL b) (hQ : Q (.inl (some (.long (Int64.ofInt ((Nat.gcd a.natAbs b.natAbs : Nat) : Int))))) h) : wpC sc (d + 1) 80 [.long (Int64.ofInt a), .long (Int64.ofInt b)] h Q := by
  have hA : a.natAbs < 9223372036854775808 := by have := ha.1; have := ha.2; omega
  have hB : b.natAbs < 9223372036854775808 := by have := hb.1; have := hb.2; omega
  rw [oI_nat] at hQ
  refine enter rfl rfl (fun call hc => go hc 4 (fun K hK => ?_))
  conv => whnf
  by_cases h1 : 0 ≤ a
  · refine ⟨fun c_ => ?_, fun c_ => absurd ((kGe0 ha).mpr h1) c_⟩
    conv => whnf
    refine hK _ _ _ _ _ _ (go hc 6 (fun K hK => ?_))
    conv => whnf
    rw [oI_abs h1]
    by_cases h2 : 0 ≤ b
    · refine ⟨fun c_ => ?_, fun c_ => absurd ((kGe0 hb).mpr h2) c_⟩
      conv => whnf
      refine hK _ _ _ _ _ _ (go hc 2 (fun K hK => ?_))
      conv => whnf
      rw [oI_abs h2]
      try simp only [nI_1]
      refine hK _ _ _ _ _ _ (Runs.less hc [0, 2, 4, 6] rfl rfl rfl rfl (ed_loop hc _ _ hA hB hQ))
    · refine ⟨fun c_ => absurd c_ (fun q => h2 ((kGe0 hb).mp q)), fun c_ => ?_⟩
      conv => whnf
      refine hK _ _ _ _ _ _ (go hc 4 (fun K hK => ?_))
      conv => whnf
      rw [oI_abs' (by omega : b < 0)]
      try simp only [nI_1]
      refine hK _ _ _ _ _ _ (Runs.less hc [0, 2, 4, 6] rfl rfl rfl rfl (ed_loop hc _ _ hA hB hQ))
  · refine ⟨fun c_ => absurd c_ (fun q => h1 ((kGe0 ha).mp q)), fun c_ => ?_⟩
    conv => whnf
    refine hK _ _ _ _ _ _ (go hc 8 (fun K hK => ?_))
    conv => whnf
    rw [oI_abs' (by omega : a < 0)]
    by_cases h2 : 0 ≤ b
    · refine ⟨fun c_ => ?_, fun c_ => absurd ((kGe0 hb).mpr h2) c_⟩
      conv => whnf
      refine hK _ _ _ _ _ _ (go hc 2 (fun K hK => ?_))
      conv => whnf
      rw [oI_abs h2]
      try simp only [nI_1]
      refine hK _ _ _ _ _ _ (Runs.less hc [0, 2, 4, 6] rfl rfl rfl rfl (ed_loop hc _ _ hA hB hQ))
    · refine ⟨fun c_ => absurd c_ (fun q => h2 ((kGe0 hb).mp q)), fun c_ => ?_⟩
      conv => whnf
      refine hK _ _ _ _ _ _ (go hc 4 (fun K hK => ?_))
      conv => whnf
      rw [oI_abs' (by omega : b < 0)]
      try simp only [nI_1]
      refine hK _ _ _ _ _ _ (Runs.less hc [0, 2, 4, 6] rfl rfl rfl rfl (ed_loop hc _ _ hA hB hQ))
theorem oI_1 : (1 : Int64) = Int64.ofInt 1 := rfl
theorem inL_1 : inL 1 := ⟨by omega, by omega⟩
theorem e_lessen (hm : MR m D Z h) (hv : inV (vAt m 7 0)) (hQ : ∀ m' h', MR m' D Z h' → vAt m' 7 0 = prm (vAt m 7 0) → Fx [7] m m' → Q (.inl none) h') : wpC sc (d + 2) 81 [.ref 67, .int 0] h Q := by
  have hg1 := gcd_inL hv.1 hv.2.1
  have hg2 := gcd_inL hg1 hv.2.2
  have e2 : Nat.gcd ((Nat.gcd (vAt m 7 0).1.natAbs (vAt m 7 0).2.1.natAbs : Nat) : Int).natAbs (vAt m 7 0).2.2.natAbs = gcd3 (vAt m 7 0) := rfl
  rw [e2] at hg2
  refine enter rfl rfl (fun call hc => go hc 23 (fun K hK => ?_))
  conv => whnf
  refine ⟨_, _, hm.L7, ixv (k := 0) ((rfl : (0 : Int32) = nI 0)) (by omega) (Nat.le_of_ble_eq_true rfl), ?_⟩
  rw [ixc (k := 0) ((rfl : (0 : Int32) = nI 0)) (by omega)]
  conv => whnf
  refine ⟨_, _, hm.L7, ixv (k := (0) + (1)) (ia ((rfl : (0 : Int32) = nI 0)) ((rfl : (1 : Int32) = nI 1))) (by omega) (Nat.le_of_ble_eq_true rfl), ?_⟩
  rw [ixc (k := (0) + (1)) (ia ((rfl : (0 : Int32) = nI 0)) ((rfl : (1 : Int32) = nI 1))) (by omega)]
  conv => whnf
  refine ⟨Nat.le_of_ble_eq_true rfl, ?_⟩
  conv => whnf
  refine callee hc (e_divisor (a := (vAt m 7 0).1) (b := (vAt m 7 0).2.1) hv.1 hv.2.1 ?_)
  conv => whnf
  refine ⟨_, _, hm.L7, ixv (k := (0) + (2)) (ia ((rfl : (0 : Int32) = nI 0)) ((rfl : (2 : Int32) = nI 2))) (by omega) (Nat.le_of_ble_eq_true rfl), ?_⟩
  rw [ixc (k := (0) + (2)) (ia ((rfl : (0 : Int32) = nI 0)) ((rfl : (2 : Int32) = nI 2))) (by omega)]
  conv => whnf
  refine ⟨Nat.le_of_ble_eq_true rfl, ?_⟩
  conv => whnf
  refine callee hc (e_divisor (b := (vAt m 7 0).2.2) hg1 hv.2.2 ?_)
  rw [e2]
  conv => whnf
  refine ⟨fun c_ => absurd c_ (by decide), fun c_ => ?_⟩
  conv => whnf
  refine hK _ _ _ _ _ _ (go hc 4 (fun K hK => ?_))
  conv => whnf
  by_cases h0 : 1 < gcd3 (vAt m 7 0)
  · have hz : ¬ Int64.ofInt (gcd3 (vAt m 7 0) : Int) = 0 := fun q => by have := (oI_eq hg2 inL_0).mp q; omega
    have hle : ¬ lg_cmp (Int64.ofInt (gcd3 (vAt m 7 0) : Int)) 1 ≤ 0 := fun q => by
      rw [oI_1] at q
      have := (kLe hg2 inL_1).mp q
      omega
    refine ⟨fun c_ => absurd c_ (hle), fun c_ => ?_⟩
    conv => whnf
    refine hK _ _ _ _ _ _ (go hc 15 (fun K hK => ?_))
    conv => whnf
    refine ⟨_, _, hm.L7, ixv (k := 0) ((rfl : (0 : Int32) = nI 0)) (by omega) (Nat.le_of_ble_eq_true rfl), ?_⟩
    rw [ixc (k := 0) ((rfl : (0 : Int32) = nI 0)) (by omega)]
    conv => whnf
    refine ⟨hz, ?_⟩
    conv => whnf
    refine ⟨_, _, hm.L7, ixv (k := 0) ((rfl : (0 : Int32) = nI 0)) (by omega) (Nat.le_of_ble_eq_true rfl), ?_⟩
    rw [ixc (k := 0) ((rfl : (0 : Int32) = nI 0)) (by omega)]
    replace hm := hm.sL (a := 7) (i := 0) (by decide) (oI_div (a := (vAt m 7 0).1) hv.1 hg2)
    conv => whnf
    refine ⟨fun c_ => absurd c_ (by decide), fun c_ => ?_⟩
    conv => whnf
    refine hK _ _ _ _ _ _ (go hc 4 (fun K hK => ?_))
    conv => whnf
    refine ⟨fun c_ => absurd c_ (hle), fun c_ => ?_⟩
    conv => whnf
    refine hK _ _ _ _ _ _ (go hc 15 (fun K hK => ?_))
    conv => whnf
    refine ⟨_, _, hm.L7, ixv (k := 0 + 1) (ia ((rfl : (0 : Int32) = nI 0)) (rfl : (1 : Int32) = nI 1)) (by omega) (Nat.le_of_ble_eq_true rfl), ?_⟩
    rw [ixc (k := 0 + 1) (ia ((rfl : (0 : Int32) = nI 0)) (rfl : (1 : Int32) = nI 1)) (by omega)]
    conv => whnf
    refine ⟨hz, ?_⟩
    conv => whnf
    refine ⟨_, _, hm.L7, ixv (k := 0 + 1) (ia ((rfl : (0 : Int32) = nI 0)) (rfl : (1 : Int32) = nI 1)) (by omega) (Nat.le_of_ble_eq_true rfl), ?_⟩
    rw [ixc (k := 0 + 1) (ia ((rfl : (0 : Int32) = nI 0)) (rfl : (1 : Int32) = nI 1)) (by omega)]
    replace hm := hm.sL (a := 7) (i := 0 + 1) (by decide) (oI_div (a := (vAt m 7 0).2.1) hv.2.1 hg2)
    conv => whnf
    refine ⟨fun c_ => absurd c_ (by decide), fun c_ => ?_⟩
    conv => whnf
    refine hK _ _ _ _ _ _ (go hc 4 (fun K hK => ?_))
    conv => whnf
    refine ⟨fun c_ => absurd c_ (hle), fun c_ => ?_⟩
    conv => whnf
    refine hK _ _ _ _ _ _ (go hc 15 (fun K hK => ?_))
    conv => whnf
    refine ⟨_, _, hm.L7, ixv (k := 0 + 1 + 1) (ia (ia ((rfl : (0 : Int32) = nI 0)) (rfl : (1 : Int32) = nI 1)) (rfl : (1 : Int32) = nI 1)) (by omega) (Nat.le_of_ble_eq_true rfl), ?_⟩
    rw [ixc (k := 0 + 1 + 1) (ia (ia ((rfl : (0 : Int32) = nI 0)) (rfl : (1 : Int32) = nI 1)) (rfl : (1 : Int32) = nI 1)) (by omega)]
    conv => whnf
    refine ⟨hz, ?_⟩
    conv => whnf
    refine ⟨_, _, hm.L7, ixv (k := 0 + 1 + 1) (ia (ia ((rfl : (0 : Int32) = nI 0)) (rfl : (1 : Int32) = nI 1)) (rfl : (1 : Int32) = nI 1)) (by omega) (Nat.le_of_ble_eq_true rfl), ?_⟩
    rw [ixc (k := 0 + 1 + 1) (ia (ia ((rfl : (0 : Int32) = nI 0)) (rfl : (1 : Int32) = nI 1)) (rfl : (1 : Int32) = nI 1)) (by omega)]
    replace hm := hm.sL (a := 7) (i := 0 + 1 + 1) (by decide) (oI_div (a := (vAt m 7 0).2.2) hv.2.2 hg2)
    conv => whnf
    refine ⟨fun c_ => ?_, fun c_ => absurd (by decide) c_⟩
    conv => whnf
    refine hK _ _ _ _ _ _ (go hc 1 (fun K hK => ?_))
    conv => whnf
    refine hQ _ _ hm ?_ (((Fx.refl.mu (by decide)).mu (by decide)).mu (by decide))
    unfold prm
    rw [if_pos h0]
    rfl
  · have hle : lg_cmp (Int64.ofInt (gcd3 (vAt m 7 0) : Int)) 1 ≤ 0 := by
      rw [oI_1]
      exact (kLe hg2 inL_1).mpr (by omega)
    refine ⟨fun c_ => ?_, fun c_ => absurd (hle) c_⟩
    conv => whnf
    refine hK _ _ _ _ _ _ (go hc 1 (fun K hK => ?_))
    conv => whnf
    refine hQ _ _ hm ?_ Fx.refl
    unfold prm
    rw [if_neg h0]
theorem e_dot (hm : MR m D Z h) {a b i j : Nat} {I J : Int32} (ha : larr a) (hb : larr b) (hI : I = nI i) (hJ : J = nI j) (hi : i + 2 < alen a) (hj : j + 2 < alen b) (hQ : Q (.inl (some (.long (Int64.ofInt (dot (vAt m a i) (vAt m b j)))))) h) : wpC sc (d + 1) 82 [.ref (a + 60), .int I, .ref (b + 60), .int J] h Q := by
  subst hI; subst hJ
  have h1 := alen_lt a
  have h2 := alen_lt b
  refine enter rfl rfl (fun call hc => go hc 32 (fun K hK => ?_))
  conv => whnf
  refine ⟨_, _, hm.L (a := a) (by assumption), ixv (k := i) ((rfl : nI (i) = nI (i))) (by omega) (alen_lt _), ?_⟩
  rw [ixc (k := i) ((rfl : nI (i) = nI (i))) (by omega)]
  conv => whnf
  refine ⟨_, _, hm.L (a := b) (by assumption), ixv (k := j) ((rfl : nI (j) = nI (j))) (by omega) (alen_lt _), ?_⟩
  rw [ixc (k := j) ((rfl : nI (j) = nI (j))) (by omega)]
  conv => whnf
  refine ⟨_, _, hm.L (a := a) (by assumption), ixv (k := (i) + (1)) (ia ((rfl : nI (i) = nI (i))) ((rfl : (1 : Int32) = nI 1))) (by omega) (alen_lt _), ?_⟩
  rw [ixc (k := (i) + (1)) (ia ((rfl : nI (i) = nI (i))) ((rfl : (1 : Int32) = nI 1))) (by omega)]
  conv => whnf
  refine ⟨_, _, hm.L (a := b) (by assumption), ixv (k := (j) + (1)) (ia ((rfl : nI (j) = nI (j))) ((rfl : (1 : Int32) = nI 1))) (by omega) (alen_lt _), ?_⟩
  rw [ixc (k := (j) + (1)) (ia ((rfl : nI (j) = nI (j))) ((rfl : (1 : Int32) = nI 1))) (by omega)]
  conv => whnf
  refine ⟨_, _, hm.L (a := a) (by assumption), ixv (k := (i) + (2)) (ia ((rfl : nI (i) = nI (i))) ((rfl : (2 : Int32) = nI 2))) (by omega) (alen_lt _), ?_⟩
  rw [ixc (k := (i) + (2)) (ia ((rfl : nI (i) = nI (i))) ((rfl : (2 : Int32) = nI 2))) (by omega)]
  conv => whnf
  refine ⟨_, _, hm.L (a := b) (by assumption), ixv (k := (j) + (2)) (ia ((rfl : nI (j) = nI (j))) ((rfl : (2 : Int32) = nI 2))) (by omega) (alen_lt _), ?_⟩
  rw [ixc (k := (j) + (2)) (ia ((rfl : nI (j) = nI (j))) ((rfl : (2 : Int32) = nI 2))) (by omega)]
  conv => whnf
  rw [← oI_dot] at hQ
  exact hQ
theorem tdiv_inL {a : Int} {g : Nat} (h : inL a) : inL (a.tdiv (g : Int)) := by
  have h1 : (a.tdiv (g : Int)).natAbs ≤ a.natAbs := by rw [Int.natAbs_tdiv]; exact Nat.div_le_self _ _
  have := h.1; have := h.2
  constructor <;> omega
theorem prm_inV {v : V3} (h : inV v) : inV (prm v) := by
  unfold prm
  split
  · exact ⟨tdiv_inL h.1, tdiv_inL h.2.1, tdiv_inL h.2.2⟩
  · exact h
theorem gcd3_z {v : V3} : gcd3 v = 0 ↔ v = (0, 0, 0) := by
  unfold gcd3
  rw [Nat.gcd_eq_zero_iff, Nat.gcd_eq_zero_iff]
  constructor
  · rintro ⟨⟨h1, h2⟩, h3⟩
    exact Prod.ext (by simpa using h1) (Prod.ext (by simpa using h2) (by simpa using h3))
  · intro h; rw [h]; exact ⟨⟨rfl, rfl⟩, rfl⟩
theorem gcd3_dv (v : V3) : ((gcd3 v : Nat) : Int) ∣ v.1 ∧ ((gcd3 v : Nat) : Int) ∣ v.2.1 ∧ ((gcd3 v : Nat) : Int) ∣ v.2.2 := by
  unfold gcd3
  refine ⟨?_, ?_, ?_⟩
  · exact Int.ofNat_dvd_left.mpr (Nat.dvd_trans (Nat.gcd_dvd_left _ _) (Nat.gcd_dvd_left _ _))
  · exact Int.ofNat_dvd_left.mpr (Nat.dvd_trans (Nat.gcd_dvd_left _ _) (Nat.gcd_dvd_right _ _))
  · exact Int.ofNat_dvd_left.mpr (Nat.gcd_dvd_right _ _)
theorem prm_0 {v : V3} : prm v = (0, 0, 0) ↔ v = (0, 0, 0) := by
  unfold prm
  split
  · obtain ⟨h1, h2, h3⟩ := gcd3_dv v
    constructor
    · intro h
      have e1 := Int.mul_tdiv_cancel' h1
      have e2 := Int.mul_tdiv_cancel' h2
      have e3 := Int.mul_tdiv_cancel' h3
      have k1 : v.1.tdiv (gcd3 v : Int) = 0 := congrArg Prod.fst h
      have k2 : v.2.1.tdiv (gcd3 v : Int) = 0 := congrArg (fun v : V3 => v.2.1) h
      have k3 : v.2.2.tdiv (gcd3 v : Int) = 0 := congrArg (fun v : V3 => v.2.2) h
      rw [k1, Int.mul_zero] at e1
      rw [k2, Int.mul_zero] at e2
      rw [k3, Int.mul_zero] at e3
      exact Prod.ext e1.symm (Prod.ext e2.symm e3.symm)
    · intro h
      have := gcd3_z.mpr h
      omega
  · exact Iff.rfl
theorem oIcr (a b c e : Int) : Int64.ofInt a * Int64.ofInt b - Int64.ofInt c * Int64.ofInt e = Int64.ofInt (a * b - c * e) := by rw [Int64.ofInt_sub, Int64.ofInt_mul, Int64.ofInt_mul]
theorem e_cross (hm : MR m D Z h) {a b i j : Nat} {I J : Int32} (ha : larr a) (hb : larr b) (ha7 : a ≠ 7) (hb7 : b ≠ 7) (hI : I = nI i) (hJ : J = nI j) (hi : i + 2 < alen a) (hj : j + 2 < alen b) (hv : inV (xp (vAt m a i) (vAt m b j)))
    (hQ : ∀ m' h', MR m' D Z h' → vAt m' 7 0 = prm (xp (vAt m a i) (vAt m b j)) → Fx [7] m m' → Q (.inl (some (.int (bI01 (decide (xp (vAt m a i) (vAt m b j) ≠ (0, 0, 0))))))) h') : wpC sc (d + 3) 83 [.ref 60, .ref (a + 60), .int I, .ref (b + 60), .int J] h Q := by
  subst hI; subst hJ
  have h1 := alen_lt a
  have h2 := alen_lt b
  have rw1 : ∀ {m' : MM} {c : Nat}, c ≠ 7 → Fx [7] m m' → m' c = m c := fun hc hf => hf _ (by simpa using hc)
  refine enter rfl rfl (fun call hc => go hc 84 (fun K hK => ?_))
  conv => whnf
  refine ⟨_, _, hm.M, rfl, ?_⟩
  conv => whnf
  refine ⟨_, _, hm.L (a := a) (by assumption), ixv (k := (i) + (1)) (ia ((rfl : nI (i) = nI (i))) ((rfl : (1 : Int32) = nI 1))) (by omega) (alen_lt _), ?_⟩
  rw [ixc (k := (i) + (1)) (ia ((rfl : nI (i) = nI (i))) ((rfl : (1 : Int32) = nI 1))) (by omega)]
  conv => whnf
  refine ⟨_, _, hm.L (a := b) (by assumption), ixv (k := (j) + (2)) (ia ((rfl : nI (j) = nI (j))) ((rfl : (2 : Int32) = nI 2))) (by omega) (alen_lt _), ?_⟩
  rw [ixc (k := (j) + (2)) (ia ((rfl : nI (j) = nI (j))) ((rfl : (2 : Int32) = nI 2))) (by omega)]
  conv => whnf
  refine ⟨_, _, hm.L (a := a) (by assumption), ixv (k := (i) + (2)) (ia ((rfl : nI (i) = nI (i))) ((rfl : (2 : Int32) = nI 2))) (by omega) (alen_lt _), ?_⟩
  rw [ixc (k := (i) + (2)) (ia ((rfl : nI (i) = nI (i))) ((rfl : (2 : Int32) = nI 2))) (by omega)]
  conv => whnf
  refine ⟨_, _, hm.L (a := b) (by assumption), ixv (k := (j) + (1)) (ia ((rfl : nI (j) = nI (j))) ((rfl : (1 : Int32) = nI 1))) (by omega) (alen_lt _), ?_⟩
  rw [ixc (k := (j) + (1)) (ia ((rfl : nI (j) = nI (j))) ((rfl : (1 : Int32) = nI 1))) (by omega)]
  conv => whnf
  refine ⟨_, _, hm.L7, ixv (k := 0) ((rfl : (0 : Int32) = nI 0)) (by omega) (Nat.le_of_ble_eq_true rfl), ?_⟩
  rw [ixc (k := 0) ((rfl : (0 : Int32) = nI 0)) (by omega)]
  replace hm := hm.sL (a := 7) (i := 0) (by decide) (oIcr (m a (i + 1)) (m b (j + 2)) (m a (i + 2)) (m b (j + 1)))
  generalize hm1 : mu m 7 0 _ = m1 at hm
  conv => whnf
  refine ⟨_, _, hm.M, rfl, ?_⟩
  conv => whnf
  refine ⟨_, _, hm.L (a := a) (by assumption), ixv (k := (i) + (2)) (ia ((rfl : nI (i) = nI (i))) ((rfl : (2 : Int32) = nI 2))) (by omega) (alen_lt _), ?_⟩
  rw [ixc (k := (i) + (2)) (ia ((rfl : nI (i) = nI (i))) ((rfl : (2 : Int32) = nI 2))) (by omega)]
  conv => whnf
  refine ⟨_, _, hm.L (a := b) (by assumption), ixv (k := j) ((rfl : nI (j) = nI (j))) (by omega) (alen_lt _), ?_⟩
  rw [ixc (k := j) ((rfl : nI (j) = nI (j))) (by omega)]
  conv => whnf
  refine ⟨_, _, hm.L (a := a) (by assumption), ixv (k := i) ((rfl : nI (i) = nI (i))) (by omega) (alen_lt _), ?_⟩
  rw [ixc (k := i) ((rfl : nI (i) = nI (i))) (by omega)]
  conv => whnf
  refine ⟨_, _, hm.L (a := b) (by assumption), ixv (k := (j) + (2)) (ia ((rfl : nI (j) = nI (j))) ((rfl : (2 : Int32) = nI 2))) (by omega) (alen_lt _), ?_⟩
  rw [ixc (k := (j) + (2)) (ia ((rfl : nI (j) = nI (j))) ((rfl : (2 : Int32) = nI 2))) (by omega)]
  conv => whnf
  refine ⟨_, _, hm.L7, ixv (k := 1) ((rfl : (1 : Int32) = nI 1)) (by omega) (Nat.le_of_ble_eq_true rfl), ?_⟩
  rw [ixc (k := 1) ((rfl : (1 : Int32) = nI 1)) (by omega)]
  replace hm := hm.sL (a := 7) (i := 1) (by decide) (oIcr (m1 a (i + 2)) (m1 b j) (m1 a i) (m1 b (j + 2)))
  generalize hm2 : mu m1 7 1 _ = m2 at hm
  conv => whnf
  refine ⟨_, _, hm.M, rfl, ?_⟩
  conv => whnf
  refine ⟨_, _, hm.L (a := a) (by assumption), ixv (k := i) ((rfl : nI (i) = nI (i))) (by omega) (alen_lt _), ?_⟩
  rw [ixc (k := i) ((rfl : nI (i) = nI (i))) (by omega)]
  conv => whnf
  refine ⟨_, _, hm.L (a := b) (by assumption), ixv (k := (j) + (1)) (ia ((rfl : nI (j) = nI (j))) ((rfl : (1 : Int32) = nI 1))) (by omega) (alen_lt _), ?_⟩
  rw [ixc (k := (j) + (1)) (ia ((rfl : nI (j) = nI (j))) ((rfl : (1 : Int32) = nI 1))) (by omega)]
  conv => whnf
  refine ⟨_, _, hm.L (a := a) (by assumption), ixv (k := (i) + (1)) (ia ((rfl : nI (i) = nI (i))) ((rfl : (1 : Int32) = nI 1))) (by omega) (alen_lt _), ?_⟩
  rw [ixc (k := (i) + (1)) (ia ((rfl : nI (i) = nI (i))) ((rfl : (1 : Int32) = nI 1))) (by omega)]
  conv => whnf
  refine ⟨_, _, hm.L (a := b) (by assumption), ixv (k := j) ((rfl : nI (j) = nI (j))) (by omega) (alen_lt _), ?_⟩
  rw [ixc (k := j) ((rfl : nI (j) = nI (j))) (by omega)]
  conv => whnf
  refine ⟨_, _, hm.L7, ixv (k := 2) ((rfl : (2 : Int32) = nI 2)) (by omega) (Nat.le_of_ble_eq_true rfl), ?_⟩
  rw [ixc (k := 2) ((rfl : (2 : Int32) = nI 2)) (by omega)]
  replace hm := hm.sL (a := 7) (i := 2) (by decide) (oIcr (m2 a i) (m2 b (j + 1)) (m2 a (i + 1)) (m2 b j))
  generalize hm3 : mu m2 7 2 _ = m3 at hm
  conv => whnf
  refine ⟨_, _, hm.M, rfl, ?_⟩
  conv => whnf
  refine ⟨Nat.le_of_ble_eq_true rfl, ?_⟩
  conv => whnf
  have f1 : Fx [7] m m1 := by rw [← hm1]; exact Fx.refl.mu (by decide)
  have f2 : Fx [7] m m2 := by rw [← hm2]; exact f1.mu (by decide)
  have f3 : Fx [7] m m3 := by rw [← hm3]; exact f2.mu (by decide)
  have v3 : vAt m3 7 0 = xp (vAt m a i) (vAt m b j) := by rw [← hm3, rw1 ha7 f2, rw1 hb7 f2, ← hm2, rw1 ha7 f1, rw1 hb7 f1, ← hm1]; rfl
  refine callee hc (e_lessen hm (by rw [v3]; exact hv) ?_)
  intro m4 h4 hm v4 f4
  rw [v3] at v4
  have f5 := f3.trans f4
  conv => whnf
  refine ⟨_, _, hm.M, rfl, ?_⟩
  conv => whnf
  refine ⟨_, _, hm.L7, ixv (k := 0) ((rfl : (0 : Int32) = nI 0)) (by omega) (Nat.le_of_ble_eq_true rfl), ?_⟩
  rw [ixc (k := 0) ((rfl : (0 : Int32) = nI 0)) (by omega)]
  conv => whnf
  have hp : inV (vAt m4 7 0) := by rw [v4]; exact prm_inV hv
  have hend := hQ m4 h4 hm v4 f5
  have hne : vAt m4 7 0 ≠ (0, 0, 0) → Q (.inl (some (.int 1))) h4 := fun q => by
    rw [decide_eq_true (show xp (vAt m a i) (vAt m b j) ≠ (0, 0, 0) from fun z => q (by rw [v4]; exact prm_0.mpr z))] at hend
    exact hend
  by_cases z1 : m4 7 0 = 0
  · refine ⟨fun c_ => ?_, fun c_ => absurd ((kEq0 hp.1).mpr z1) c_⟩
    conv => whnf
    refine hK _ _ _ _ _ _ (go hc 7 (fun K hK => ?_))
    conv => whnf
    refine ⟨_, _, hm.M, rfl, ?_⟩
    conv => whnf
    refine ⟨_, _, hm.L7, ixv (k := 1) ((rfl : (1 : Int32) = nI 1)) (by omega) (Nat.le_of_ble_eq_true rfl), ?_⟩
    rw [ixc (k := 1) ((rfl : (1 : Int32) = nI 1)) (by omega)]
    conv => whnf
    by_cases z2 : m4 7 1 = 0
    · refine ⟨fun c_ => ?_, fun c_ => absurd ((kEq0 hp.2.1).mpr z2) c_⟩
      conv => whnf
      refine hK _ _ _ _ _ _ (go hc 7 (fun K hK => ?_))
      conv => whnf
      refine ⟨_, _, hm.M, rfl, ?_⟩
      conv => whnf
      refine ⟨_, _, hm.L7, ixv (k := 2) ((rfl : (2 : Int32) = nI 2)) (by omega) (Nat.le_of_ble_eq_true rfl), ?_⟩
      rw [ixc (k := 2) ((rfl : (2 : Int32) = nI 2)) (by omega)]
      conv => whnf
      by_cases z3 : m4 7 2 = 0
      · refine ⟨fun c_ => ?_, fun c_ => absurd ((kEq0 hp.2.2).mpr z3) c_⟩
        conv => whnf
        refine hK _ _ _ _ _ _ (go hc 2 (fun K hK => ?_))
        conv => whnf
        refine ⟨Or.inl rfl, ?_⟩
        have hz : vAt m4 7 0 = (0, 0, 0) := Prod.ext z1 (Prod.ext z2 z3)
        rw [decide_eq_false (show ¬ xp (vAt m a i) (vAt m b j) ≠ (0, 0, 0) from fun q => q (by rw [v4] at hz; exact prm_0.mp hz))] at hend
        exact hend
      · refine ⟨fun c_ => absurd c_ (fun q => z3 ((kEq0 hp.2.2).mp q)), fun c_ => ?_⟩
        conv => whnf
        refine hK _ _ _ _ _ _ (go hc 3 (fun K hK => ?_))
        conv => whnf
        exact ⟨Or.inr rfl, hne fun q => z3 (congrArg (fun v : V3 => v.2.2) q)⟩
    · refine ⟨fun c_ => absurd c_ (fun q => z2 ((kEq0 hp.2.1).mp q)), fun c_ => ?_⟩
      conv => whnf
      refine hK _ _ _ _ _ _ (go hc 3 (fun K hK => ?_))
      conv => whnf
      exact ⟨Or.inr rfl, hne fun q => z2 (congrArg (fun v : V3 => v.2.1) q)⟩
  · refine ⟨fun c_ => absurd c_ (fun q => z1 ((kEq0 hp.1).mp q)), fun c_ => ?_⟩
    conv => whnf
    refine hK _ _ _ _ _ _ (go hc 3 (fun K hK => ?_))
    conv => whnf
    exact ⟨Or.inr rfl, hne fun q => z1 (congrArg Prod.fst q)⟩
theorem e_put (hm : MR m D Z h) (v : V3) {x y z : Int64} (hx : x = Int64.ofInt v.1) (hy : y = Int64.ofInt v.2.1) (hz : z = Int64.ofInt v.2.2) (hv : inV v)
    (hQ : ∀ m' h', MR m' D Z h' → vAt m' 7 0 = prm v → Fx [7] m m' → Q (.inl none) h') : wpC sc (d + 3) 87 [.ref 60, .long x, .long y, .long z] h Q := by
  refine enter rfl rfl (fun call hc => go hc 20 (fun K hK => ?_))
  conv => whnf
  refine ⟨_, _, hm.M, rfl, ?_⟩
  conv => whnf
  refine ⟨_, _, hm.L7, ixv (k := 0) ((rfl : (0 : Int32) = nI 0)) (by omega) (Nat.le_of_ble_eq_true rfl), ?_⟩
  rw [ixc (k := 0) ((rfl : (0 : Int32) = nI 0)) (by omega)]
  replace hm := hm.sL (a := 7) (i := 0) (by decide) (hx)
  conv => whnf
  refine ⟨_, _, hm.M, rfl, ?_⟩
  conv => whnf
  refine ⟨_, _, hm.L7, ixv (k := 1) ((rfl : (1 : Int32) = nI 1)) (by omega) (Nat.le_of_ble_eq_true rfl), ?_⟩
  rw [ixc (k := 1) ((rfl : (1 : Int32) = nI 1)) (by omega)]
  replace hm := hm.sL (a := 7) (i := 1) (by decide) (hy)
  conv => whnf
  refine ⟨_, _, hm.M, rfl, ?_⟩
  conv => whnf
  refine ⟨_, _, hm.L7, ixv (k := 2) ((rfl : (2 : Int32) = nI 2)) (by omega) (Nat.le_of_ble_eq_true rfl), ?_⟩
  rw [ixc (k := 2) ((rfl : (2 : Int32) = nI 2)) (by omega)]
  replace hm := hm.sL (a := 7) (i := 2) (by decide) (hz)
  generalize hm3 : mu (mu (mu m 7 0 v.1) 7 1 v.2.1) 7 2 v.2.2 = m3 at hm
  have v3 : vAt m3 7 0 = v := by rw [← hm3]; rfl
  have f3 : Fx [7] m m3 := by rw [← hm3]; exact ((Fx.refl.mu (by decide)).mu (by decide)).mu (by decide)
  conv => whnf
  refine ⟨_, _, hm.M, rfl, ?_⟩
  conv => whnf
  refine ⟨Nat.le_of_ble_eq_true rfl, ?_⟩
  conv => whnf
  refine callee hc (e_lessen hm (by rw [v3]; exact hv) ?_)
  intro m4 h4 hm v4 f4
  conv => whnf
  rw [v3] at v4
  exact hQ m4 h4 hm v4 (f3.trans f4)
theorem e_turn (hm : MR m D Z h) (hQ : ∀ m' h', MR m' D Z h' → vAt m' 7 0 = neg3 (vAt m 7 0) → Fx [7] m m' → Q (.inl none) h') : wpC sc (d + 1) 85 [.ref 60] h Q := by
  refine enter rfl rfl (fun call hc => go hc 5 (fun K hK => ?_))
  conv => whnf
  refine ⟨fun c_ => absurd c_ (by decide), fun c_ => ?_⟩
  conv => whnf
  refine hK _ _ _ _ _ _ (go hc 14 (fun K hK => ?_))
  conv => whnf
  refine ⟨_, _, hm.M, rfl, ?_⟩
  conv => whnf
  refine ⟨_, _, hm.M, rfl, ?_⟩
  conv => whnf
  refine ⟨_, _, hm.L7, ixv (k := 0) ((rfl : (0 : Int32) = nI 0)) (by omega) (Nat.le_of_ble_eq_true rfl), ?_⟩
  rw [ixc (k := 0) ((rfl : (0 : Int32) = nI 0)) (by omega)]
  conv => whnf
  refine ⟨_, _, hm.L7, ixv (k := 0) ((rfl : (0 : Int32) = nI 0)) (by omega) (Nat.le_of_ble_eq_true rfl), ?_⟩
  rw [ixc (k := 0) ((rfl : (0 : Int32) = nI 0)) (by omega)]
  replace hm := hm.sL (a := 7) (i := 0) (by decide) ((Int64.ofInt_neg (m 7 0)).symm)
  conv => whnf
  refine ⟨fun c_ => absurd c_ (by decide), fun c_ => ?_⟩
  conv => whnf
  refine hK _ _ _ _ _ _ (go hc 14 (fun K hK => ?_))
  conv => whnf
  refine ⟨_, _, hm.M, rfl, ?_⟩
  conv => whnf
  refine ⟨_, _, hm.M, rfl, ?_⟩
  conv => whnf
  refine ⟨_, _, hm.L7, ixv (k := 0 + 1) (ia ((rfl : (0 : Int32) = nI 0)) (rfl : (1 : Int32) = nI 1)) (by omega) (Nat.le_of_ble_eq_true rfl), ?_⟩
  rw [ixc (k := 0 + 1) (ia ((rfl : (0 : Int32) = nI 0)) (rfl : (1 : Int32) = nI 1)) (by omega)]
  conv => whnf
  refine ⟨_, _, hm.L7, ixv (k := 0 + 1) (ia ((rfl : (0 : Int32) = nI 0)) (rfl : (1 : Int32) = nI 1)) (by omega) (Nat.le_of_ble_eq_true rfl), ?_⟩
  rw [ixc (k := 0 + 1) (ia ((rfl : (0 : Int32) = nI 0)) (rfl : (1 : Int32) = nI 1)) (by omega)]
  replace hm := hm.sL (a := 7) (i := 0 + 1) (by decide) ((Int64.ofInt_neg (m 7 1)).symm)
  conv => whnf
  refine ⟨fun c_ => absurd c_ (by decide), fun c_ => ?_⟩
  conv => whnf
  refine hK _ _ _ _ _ _ (go hc 14 (fun K hK => ?_))
  conv => whnf
  refine ⟨_, _, hm.M, rfl, ?_⟩
  conv => whnf
  refine ⟨_, _, hm.M, rfl, ?_⟩
  conv => whnf
  refine ⟨_, _, hm.L7, ixv (k := 0 + 1 + 1) (ia (ia ((rfl : (0 : Int32) = nI 0)) (rfl : (1 : Int32) = nI 1)) (rfl : (1 : Int32) = nI 1)) (by omega) (Nat.le_of_ble_eq_true rfl), ?_⟩
  rw [ixc (k := 0 + 1 + 1) (ia (ia ((rfl : (0 : Int32) = nI 0)) (rfl : (1 : Int32) = nI 1)) (rfl : (1 : Int32) = nI 1)) (by omega)]
  conv => whnf
  refine ⟨_, _, hm.L7, ixv (k := 0 + 1 + 1) (ia (ia ((rfl : (0 : Int32) = nI 0)) (rfl : (1 : Int32) = nI 1)) (rfl : (1 : Int32) = nI 1)) (by omega) (Nat.le_of_ble_eq_true rfl), ?_⟩
  rw [ixc (k := 0 + 1 + 1) (ia (ia ((rfl : (0 : Int32) = nI 0)) (rfl : (1 : Int32) = nI 1)) (rfl : (1 : Int32) = nI 1)) (by omega)]
  replace hm := hm.sL (a := 7) (i := 0 + 1 + 1) (by decide) ((Int64.ofInt_neg (m 7 2)).symm)
  conv => whnf
  refine ⟨fun c_ => ?_, fun c_ => absurd (by decide) c_⟩
  conv => whnf
  refine hK _ _ _ _ _ _ (go hc 1 (fun K hK => ?_))
  conv => whnf
  exact hQ _ _ hm rfl (((Fx.refl.mu (by decide)).mu (by decide)).mu (by decide))
end EBASE
