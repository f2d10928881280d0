/-! the reference's tables; taking rows out of them -/
def TB (m : MM) (s k : Nat) (l : List V3) : Prop := m 2 (5 * s + k) = (l.length : Int) ∧ RW m 3 (48 * (5 * s + k)) l ∧ l.length ≤ 16
abbrev Tab : Type := Nat → Nat → List V3
def Tb (m : MM) (T : Tab) : Prop := ∀ s k, s < 4 → k < 5 → TB m s k (T s k)
def okT (T : Tab) : Prop := ∀ s k, s < 4 → k < 5 → ∀ v ∈ T s k, bdV 30 v
theorem TB.eq {m m' : MM} {s k : Nat} {l : List V3} (h : TB m s k l) (h2 : m' 2 = m 2) (h3 : m' 3 = m 3) : TB m' s k l := ⟨by rw [h2]; exact h.1, h.2.1.eq h3, h.2.2⟩
theorem Tb.fx {m m' : MM} {T : Tab} {fr : List Nat} (h : Tb m T) (hf : Fx fr m m') (h2 : 2 ∉ fr) (h3 : 3 ∉ fr) : Tb m' T := fun s k hs hk => (h s k hs hk).eq (hf 2 h2) (hf 3 h3)
def dimI (e q : List V3) : Int32 := if e = [] then -1 else 2 - nI q.length
theorem i32_l {a : Int} (h : bdI 30 a) : (Int32.ofInt a).toInt64 = Int64.ofInt a := by
  have h1 := h.1; have h2 := h.2
  refine Int64.toInt_inj.mp ?_
  rw [Int32.toInt_toInt64, Int32.toInt_ofInt_of_le (by omega) (by omega), oI_toInt ⟨by omega, by omega⟩]
theorem i32_n {a : Int} (h : bdI 30 a) : (-(Int32.ofInt a)).toInt64 = Int64.ofInt (-a) := by
  rw [← Int32.ofInt_neg]
  exact i32_l h.neg
section ETAKE
variable {sc : Scr} {d : Nat} {m : MM} {D Z h : PH} {Q : Out → PH → Prop} {G Kc l : List V3} {T : Tab}
theorem e_at {s k i : Nat} {X Y I : Int32} (hX : X = nI s) (hY : Y = nI k) (hI : I = nI i) (hQ : Q (.inl (some (.int (nI (48 * (5 * s + k) + 3 * i))))) h) : wpC sc (d + 1) 94 [.ref 60, .int X, .int Y, .int I] h Q := by
  refine enter rfl rfl (fun call hc => go hc 12 (fun K hK => ?_))
  conv => whnf
  rw [show (3 : Int32) * (16 * (5 * X + Y) + I) = nI (48 * (5 * s + k) + 3 * i) from ?_]
  · exact hQ
  · rw [im (a := 3) (rfl : (3 : Int32) = nI 3) (ia (im (a := 16) (rfl : (16 : Int32) = nI 16) (ia (im (a := 5) (rfl : (5 : Int32) = nI 5) hX) hY)) hI)]
    congr 1
    omega
theorem e_place {k i : Nat} {X I : Int32} (hX : X = nI k) (hI : I = nI i) (hQ : Q (.inl (some (.int (nI (1800 * k + 3 * i))))) h) : wpC sc (d + 1) 101 [.ref 60, .int X, .int I] h Q := by
  refine enter rfl rfl (fun call hc => go hc 8 (fun K hK => ?_))
  conv => whnf
  rw [show (3 : Int32) * (600 * X + I) = nI (1800 * k + 3 * i) from ?_]
  · exact hQ
  · rw [im (a := 3) (rfl : (3 : Int32) = nI 3) (ia (im (a := 600) (rfl : (600 : Int32) = nI 600) hX) hI)]
    congr 1
    omega
theorem e_count (hm : MR m D Z h) {s k : Nat} {X Y : Int32} (hX : X = nI s) (hY : Y = nI k) (hs : s < 4) (hk : k < 5) (hT : TB m s k l) (hQ : Q (.inl (some (.int (nI l.length)))) h) : wpC sc (d + 1) 95 [.ref 60, .int X, .int Y] h Q := by
  subst hX; subst hY
  refine enter rfl rfl (fun call hc => go hc 9 (fun K hK => ?_))
  conv => whnf
  refine ⟨_, _, hm.M, rfl, ?_⟩
  conv => whnf
  refine Or.inr ⟨_, _, hm.I2, ixv (k := ((5) * (s)) + (k)) (ia (im ((rfl : (5 : Int32) = nI 5)) ((rfl : nI (s) = nI (s)))) ((rfl : nI (k) = nI (k)))) (by omega) (Nat.le_of_ble_eq_true rfl), ?_⟩
  rw [ixc (k := ((5) * (s)) + (k)) (ia (im ((rfl : (5 : Int32) = nI 5)) ((rfl : nI (s) = nI (s)))) ((rfl : nI (k) = nI (k)))) (by omega)]
  conv => whnf
  rw [show mI m 2 ((5) * (s) + (k)) = nI l.length from by unfold mI; rw [hT.1]; rfl]
  exact hQ
theorem e_isEmpty (hm : MR m D Z h) {s : Nat} {X : Int32} (hX : X = nI s) (hs : s < 4) (hT : TB m s 4 l) (hQ : Q (.inl (some (.int (bI01 (decide (l = [])))))) h) : wpC sc (d + 2) 96 [.ref 60, .int X] h Q := by
  have := hT.2.2
  refine enter rfl rfl (fun call hc => go hc 5 (fun K hK => ?_))
  conv => whnf
  refine ⟨_, hm.M, Nat.le_of_ble_eq_true rfl, ?_⟩
  conv => whnf
  refine callee hc (e_count hm (k := 4) hX rfl hs (by omega) hT ?_)
  conv => whnf
  cases l with
  | nil =>
    refine ⟨fun c_ => ?_, fun c_ => absurd (rfl) c_⟩
    conv => whnf
    refine hK _ _ _ _ _ _ (go hc 3 (fun K hK => ?_))
    conv => whnf
    exact ⟨Or.inr rfl, hQ⟩
  | cons v l =>
    refine ⟨fun c_ => absurd c_ (nI_ne0 (by simp) (by omega)), fun c_ => ?_⟩
    conv => whnf
    refine hK _ _ _ _ _ _ (go hc 2 (fun K hK => ?_))
    conv => whnf
    exact ⟨Or.inl rfl, hQ⟩
theorem e_dimOf (hm : MR m D Z h) {s : Nat} {X : Int32} (hX : X = nI s) (hs : s < 4) (hT : Tb m T) (hQ : Q (.inl (some (.int (dimI (T s 4) (T s 0))))) h) : wpC sc (d + 3) 97 [.ref 60, .int X] h Q := by
  unfold dimI at hQ
  refine enter rfl rfl (fun call hc => go hc 4 (fun K hK => ?_))
  conv => whnf
  refine ⟨_, hm.M, Nat.le_of_ble_eq_true rfl, ?_⟩
  conv => whnf
  refine callee hc (e_isEmpty hm hX hs (hT s 4 hs (by omega)) ?_)
  conv => whnf
  by_cases c : T s 4 = []
  · rw [if_pos c] at hQ
    rw [decide_eq_true c]
    refine ⟨fun c_ => absurd c_ (by decide), fun c_ => ?_⟩
    conv => whnf
    refine hK _ _ _ _ _ _ (go hc 3 (fun K hK => ?_))
    conv => whnf
    exact hQ
  · rw [if_neg c] at hQ
    rw [decide_eq_false c]
    refine ⟨fun c_ => ?_, fun c_ => absurd (rfl) c_⟩
    conv => whnf
    refine hK _ _ _ _ _ _ (go hc 7 (fun K hK => ?_))
    conv => whnf
    refine ⟨_, hm.M, Nat.le_of_ble_eq_true rfl, ?_⟩
    conv => whnf
    refine callee hc (e_count hm (k := 0) hX rfl hs (by omega) (hT s 0 hs (by omega)) ?_)
    conv => whnf
    exact hQ
theorem e_begin (hm : MR m D Z h) (hQ : ∀ m' h', MR m' D Z h' → m' 14 0 = 0 → m' 15 0 = 0 → (∀ k, k < 5 → m' 10 k = 0) → Fx [10, 14, 15] m m' → Q (.inl none) h') : wpC sc (d + 1) 100 [.ref 60] h Q := by
  refine enter rfl rfl (fun call hc => go hc 11 (fun K hK => ?_))
  conv => whnf
  refine ⟨_, hm.M, Nat.le_of_ble_eq_true rfl, ?_⟩
  replace hm := hm.gn (v := 0) rfl
  conv => whnf
  refine ⟨_, hm.M, Nat.le_of_ble_eq_true rfl, ?_⟩
  replace hm := hm.kn (v := 0) rfl
  conv => whnf
  refine ⟨fun c_ => absurd c_ (by decide), fun c_ => ?_⟩
  conv => whnf
  refine hK _ _ _ _ _ _ (go hc 10 (fun K hK => ?_))
  conv => whnf
  refine ⟨_, _, hm.M, rfl, ?_⟩
  conv => whnf
  refine ⟨_, _, hm.I10, ixv (k := 0) ((rfl : (0 : Int32) = nI 0)) (by omega) (Nat.le_of_ble_eq_true rfl), ?_⟩
  rw [ixc (k := 0) ((rfl : (0 : Int32) = nI 0)) (by omega)]
  replace hm := hm.sI (a := 10) (i := 0) (by decide) ((rfl : Int32.ofInt 0 = Int32.ofInt 0))
  conv => whnf
  refine ⟨fun c_ => absurd c_ (by decide), fun c_ => ?_⟩
  conv => whnf
  refine hK _ _ _ _ _ _ (go hc 10 (fun K hK => ?_))
  conv => whnf
  refine ⟨_, _, hm.M, rfl, ?_⟩
  conv => whnf
  refine ⟨_, _, hm.I10, ixv (k := 0 + 1) (ia ((rfl : (0 : Int32) = nI 0)) (rfl : (1 : Int32) = nI 1)) (by omega) (Nat.le_of_ble_eq_true rfl), ?_⟩
  rw [ixc (k := 0 + 1) (ia ((rfl : (0 : Int32) = nI 0)) (rfl : (1 : Int32) = nI 1)) (by omega)]
  replace hm := hm.sI (a := 10) (i := 0 + 1) (by decide) ((rfl : Int32.ofInt 0 = Int32.ofInt 0))
  conv => whnf
  refine ⟨fun c_ => absurd c_ (by decide), fun c_ => ?_⟩
  conv => whnf
  refine hK _ _ _ _ _ _ (go hc 10 (fun K hK => ?_))
  conv => whnf
  refine ⟨_, _, hm.M, rfl, ?_⟩
  conv => whnf
  refine ⟨_, _, hm.I10, ixv (k := 0 + 1 + 1) (ia (ia ((rfl : (0 : Int32) = nI 0)) (rfl : (1 : Int32) = nI 1)) (rfl : (1 : Int32) = nI 1)) (by omega) (Nat.le_of_ble_eq_true rfl), ?_⟩
  rw [ixc (k := 0 + 1 + 1) (ia (ia ((rfl : (0 : Int32) = nI 0)) (rfl : (1 : Int32) = nI 1)) (rfl : (1 : Int32) = nI 1)) (by omega)]
  replace hm := hm.sI (a := 10) (i := 0 + 1 + 1) (by decide) ((rfl : Int32.ofInt 0 = Int32.ofInt 0))
  conv => whnf
  refine ⟨fun c_ => absurd c_ (by decide), fun c_ => ?_⟩
  conv => whnf
  refine hK _ _ _ _ _ _ (go hc 10 (fun K hK => ?_))
  conv => whnf
  refine ⟨_, _, hm.M, rfl, ?_⟩
  conv => whnf
  refine ⟨_, _, hm.I10, ixv (k := 0 + 1 + 1 + 1) (ia (ia (ia ((rfl : (0 : Int32) = nI 0)) (rfl : (1 : Int32) = nI 1)) (rfl : (1 : Int32) = nI 1)) (rfl : (1 : Int32) = nI 1)) (by omega) (Nat.le_of_ble_eq_true rfl), ?_⟩
  rw [ixc (k := 0 + 1 + 1 + 1) (ia (ia (ia ((rfl : (0 : Int32) = nI 0)) (rfl : (1 : Int32) = nI 1)) (rfl : (1 : Int32) = nI 1)) (rfl : (1 : Int32) = nI 1)) (by omega)]
  replace hm := hm.sI (a := 10) (i := 0 + 1 + 1 + 1) (by decide) ((rfl : Int32.ofInt 0 = Int32.ofInt 0))
  conv => whnf
  refine ⟨fun c_ => absurd c_ (by decide), fun c_ => ?_⟩
  conv => whnf
  refine hK _ _ _ _ _ _ (go hc 10 (fun K hK => ?_))
  conv => whnf
  refine ⟨_, _, hm.M, rfl, ?_⟩
  conv => whnf
  refine ⟨_, _, hm.I10, ixv (k := 0 + 1 + 1 + 1 + 1) (ia (ia (ia (ia ((rfl : (0 : Int32) = nI 0)) (rfl : (1 : Int32) = nI 1)) (rfl : (1 : Int32) = nI 1)) (rfl : (1 : Int32) = nI 1)) (rfl : (1 : Int32) = nI 1)) (by omega) (Nat.le_of_ble_eq_true rfl), ?_⟩
  rw [ixc (k := 0 + 1 + 1 + 1 + 1) (ia (ia (ia (ia ((rfl : (0 : Int32) = nI 0)) (rfl : (1 : Int32) = nI 1)) (rfl : (1 : Int32) = nI 1)) (rfl : (1 : Int32) = nI 1)) (rfl : (1 : Int32) = nI 1)) (by omega)]
  replace hm := hm.sI (a := 10) (i := 0 + 1 + 1 + 1 + 1) (by decide) ((rfl : Int32.ofInt 0 = Int32.ofInt 0))
  conv => whnf
  refine ⟨fun c_ => ?_, fun c_ => absurd (by decide) c_⟩
  conv => whnf
  refine hK _ _ _ _ _ _ (go hc 1 (fun K hK => ?_))
  conv => whnf
  refine hQ _ _ hm rfl rfl (fun k hk => ?_) (((((((Fx.refl.mu (by decide)).mu (by decide)).mu (by decide)).mu (by decide)).mu (by decide)).mu (by decide)).mu (by decide))
  match k, hk with
  | 0, _ => rfl
  | 1, _ => rfl
  | 2, _ => rfl
  | 3, _ => rfl
  | 4, _ => rfl
theorem one_l (x : Int) : (1 : Int32).toInt64 * Int64.ofInt x = Int64.ofInt x := by rw [show (1 : Int32).toInt64 = 1 from rfl, Int64.one_mul]
theorem mone_l (x : Int) : (1 + -2 : Int32).toInt64 * Int64.ofInt x = Int64.ofInt (-x) := by rw [show (1 + -2 : Int32).toInt64 = -1 from rfl, Int64.ofInt_neg, Int64.neg_mul, Int64.one_mul]
/-- one row more among the constraints; v may be turned -/
theorem ac_one {call : Callee} (hc : call = wpC sc d) (hm : MR m D Z h) {w : V3} {v : V3} {b S : Int32} (e1 : S.toInt64 * Int64.ofInt v.1 = Int64.ofInt w.1) (e2 : S.toInt64 * Int64.ofInt v.2.1 = Int64.ofInt w.2.1) (e3 : S.toInt64 * Int64.ofInt v.2.2 = Int64.ofInt w.2.2) (hK0 : RW m 5 0 Kc) (hkn : m 15 0 = (Kc.length : Int)) (hKl : Kc.length < 600)
    (hQ : ∀ m' h', MR m' D Z h' → RW m' 5 0 (Kc ++ [w]) → m' 15 0 = ((Kc ++ [w]).length : Int) → Fx [5, 15] m m' → Runs d call sc m_X4_addConstraint Q 23 [(0, .ref 60), (1, .long (Int64.ofInt v.1)), (3, .long (Int64.ofInt v.2.1)), (5, .long (Int64.ofInt v.2.2)), (7, .int b), (8, .int (S + -2))] [] h' 0 0) :
    Runs d call sc m_X4_addConstraint Q 38 [(0, .ref 60), (1, .long (Int64.ofInt v.1)), (3, .long (Int64.ofInt v.2.1)), (5, .long (Int64.ofInt v.2.2)), (7, .int b), (8, .int S)] [] h 0 0 := by
  have F6 := mF_of hkn
  refine go hc 45 (fun K hK => ?_)
  conv => whnf
  refine ⟨_, _, hm.M, rfl, ?_⟩
  conv => whnf
  refine ⟨_, _, hm.M, rfl, ?_⟩
  rw [F6]
  conv => whnf
  refine ⟨_, _, hm.L5, ixv (k := (3) * (Kc.length)) (im ((rfl : (3 : Int32) = nI 3)) ((rfl : nI (Kc.length) = nI (Kc.length)))) (by omega) (Nat.le_of_ble_eq_true rfl), ?_⟩
  rw [ixc (k := (3) * (Kc.length)) (im ((rfl : (3 : Int32) = nI 3)) ((rfl : nI (Kc.length) = nI (Kc.length)))) (by omega)]
  replace hm := hm.sL (a := 5) (i := (3) * (Kc.length)) (by decide) (e1)
  generalize hg1 : mu m 5 (3 * Kc.length) w.1 = m1 at hm
  replace F6 : mF m1 15 = nI Kc.length := by rw [← hg1]; exact F6
  conv => whnf
  refine ⟨_, _, hm.M, rfl, ?_⟩
  conv => whnf
  refine ⟨_, _, hm.M, rfl, ?_⟩
  rw [F6]
  conv => whnf
  refine ⟨_, _, hm.L5, ixv (k := ((3) * (Kc.length)) + (1)) (ia (im ((rfl : (3 : Int32) = nI 3)) ((rfl : nI (Kc.length) = nI (Kc.length)))) ((rfl : (1 : Int32) = nI 1))) (by omega) (Nat.le_of_ble_eq_true rfl), ?_⟩
  rw [ixc (k := ((3) * (Kc.length)) + (1)) (ia (im ((rfl : (3 : Int32) = nI 3)) ((rfl : nI (Kc.length) = nI (Kc.length)))) ((rfl : (1 : Int32) = nI 1))) (by omega)]
  replace hm := hm.sL (a := 5) (i := ((3) * (Kc.length)) + (1)) (by decide) (e2)
  generalize hg2 : mu m1 5 (3 * Kc.length + 1) w.2.1 = m2 at hm
  replace F6 : mF m2 15 = nI Kc.length := by rw [← hg2]; exact F6
  conv => whnf
  refine ⟨_, _, hm.M, rfl, ?_⟩
  conv => whnf
  refine ⟨_, _, hm.M, rfl, ?_⟩
  rw [F6]
  conv => whnf
  refine ⟨_, _, hm.L5, ixv (k := ((3) * (Kc.length)) + (2)) (ia (im ((rfl : (3 : Int32) = nI 3)) ((rfl : nI (Kc.length) = nI (Kc.length)))) ((rfl : (2 : Int32) = nI 2))) (by omega) (Nat.le_of_ble_eq_true rfl), ?_⟩
  rw [ixc (k := ((3) * (Kc.length)) + (2)) (ia (im ((rfl : (3 : Int32) = nI 3)) ((rfl : nI (Kc.length) = nI (Kc.length)))) ((rfl : (2 : Int32) = nI 2))) (by omega)]
  replace hm := hm.sL (a := 5) (i := ((3) * (Kc.length)) + (2)) (by decide) (e3)
  generalize hg3 : mu m2 5 (3 * Kc.length + 2) w.2.2 = m3 at hm
  replace F6 : mF m3 15 = nI Kc.length := by rw [← hg3]; exact F6
  conv => whnf
  refine ⟨_, _, hm.M, rfl, ?_⟩
  rw [F6]
  conv => whnf
  refine ⟨_, hm.M, Nat.le_of_ble_eq_true rfl, ?_⟩
  replace hm := hm.kn (v := ((Kc ++ [w]).length : Int)) (by rw [List.length_append, List.length_singleton, nI_ofI, ← nI_1])
  conv => whnf
  refine hK _ _ _ _ _ _ (hQ _ _ hm ?_ (mu_at _ _ _ _) ?_)
  · refine RW.push hK0 (fun j hj => ?_) ?_
    · show m3 5 j = m 5 j
      rw [← hg3, mu_at_ne _ _ _ (by omega), ← hg2, mu_at_ne _ _ _ (by omega), ← hg1, mu_at_ne _ _ _ (by omega)]
    · show vAt m3 5 (0 + 3 * Kc.length) = w
      rw [Nat.zero_add]
      unfold vAt
      rw [← hg3, mu_at, mu_at_ne _ _ _ (by omega), mu_at_ne _ _ _ (by omega), ← hg2, mu_at, mu_at_ne _ _ _ (by omega), ← hg1, mu_at]
  · refine Fx.mu ?_ (by decide)
    rw [← hg3, ← hg2, ← hg1]
    exact ((Fx.refl.mu (by decide)).mu (by decide)).mu (by decide)
theorem e_addC (hm : MR m D Z h) (v : V3) {x y z : Int64} (b : Bool) (hx : x = Int64.ofInt v.1) (hy : y = Int64.ofInt v.2.1) (hz : z = Int64.ofInt v.2.2) (hv : inV v) (hK0 : RW m 5 0 Kc) (hkn : m 15 0 = (Kc.length : Int)) (hKl : Kc.length + 2 ≤ 600)
    (hQ : ∀ m' h', MR m' D Z h' → RW m' 5 0 (acF Kc v b) → m' 15 0 = ((acF Kc v b).length : Int) → Fx [5, 15] m m' → Q (.inl none) h') : wpC sc (d + 1) 93 [.ref 60, .long x, .long y, .long z, .int (bI01 b)] h Q := by
  subst hx; subst hy; subst hz
  unfold acF at hQ
  have go20 : ∀ {call : Callee}, call = wpC sc d → v ≠ (0, 0, 0) → Runs d call sc m_X4_addConstraint (qth (mTh m_X4_addConstraint) Q) 20 [(0, .ref 60), (1, .long (Int64.ofInt v.1)), (3, .long (Int64.ofInt v.2.1)), (5, .long (Int64.ofInt v.2.2)), (7, .int (bI01 b))] [] h 0 0 := by
    intro call hc hne
    rw [if_neg hne] at hQ
    refine go hc 2 (fun K hK => ?_)
    conv => whnf
    refine hK _ _ _ _ _ _ ?_
    refine go hc 3 (fun K hK => ?_)
    conv => whnf
    cases b with
    | true =>
      refine ⟨fun c_ => absurd c_ (by decide), fun c_ => ?_⟩
      conv => whnf
      refine hK _ _ _ _ _ _ (go hc 3 (fun K hK => ?_))
      conv => whnf
      refine ⟨fun c_ => absurd c_ (by decide), fun c_ => ?_⟩
      conv => whnf
      refine hK _ _ _ _ _ _ (ac_one hc hm (w := v) (one_l _) (one_l _) (one_l _) hK0 hkn (by omega) fun m1 h1 hm r1 n1 f1 => ?_)
      have hlen : (Kc ++ [v]).length = Kc.length + 1 := by rw [List.length_append]; rfl
      refine go hc 3 (fun K hK => ?_)
      conv => whnf
      refine ⟨fun c_ => absurd c_ (by decide), fun c_ => ?_⟩
      conv => whnf
      refine hK _ _ _ _ _ _ (go hc 3 (fun K hK => ?_))
      conv => whnf
      refine ⟨fun c_ => absurd c_ (by decide), fun c_ => ?_⟩
      conv => whnf
      refine hK _ _ _ _ _ _ (ac_one hc hm (w := neg3 v) (mone_l _) (mone_l _) (mone_l _) r1 n1 (by omega) fun m2 h2 hm r2 n2 f2 => ?_)
      refine go hc 3 (fun K hK => ?_)
      conv => whnf
      refine ⟨fun c_ => absurd c_ (by decide), fun c_ => ?_⟩
      conv => whnf
      refine hK _ _ _ _ _ _ (go hc 3 (fun K hK => ?_))
      conv => whnf
      refine ⟨fun c_ => ?_, fun c_ => absurd (by decide) c_⟩
      conv => whnf
      refine hK _ _ _ _ _ _ ?_
      refine go hc 1 (fun K hK => ?_)
      conv => whnf
      exact hQ m2 h2 hm r2 n2 (f1.trans f2)
    | false =>
      refine ⟨fun c_ => ?_, fun c_ => absurd (rfl) c_⟩
      conv => whnf
      refine hK _ _ _ _ _ _ (go hc 2 (fun K hK => ?_))
      conv => whnf
      refine ⟨fun c_ => absurd c_ (by decide), fun c_ => ?_⟩
      conv => whnf
      refine hK _ _ _ _ _ _ (ac_one hc hm (w := v) (one_l _) (one_l _) (one_l _) hK0 hkn (by omega) fun m1 h1 hm r1 n1 f1 => ?_)
      refine go hc 3 (fun K hK => ?_)
      conv => whnf
      refine ⟨fun c_ => ?_, fun c_ => absurd (rfl) c_⟩
      conv => whnf
      refine hK _ _ _ _ _ _ (go hc 2 (fun K hK => ?_))
      conv => whnf
      refine ⟨fun c_ => ?_, fun c_ => absurd (by decide) c_⟩
      conv => whnf
      refine hK _ _ _ _ _ _ ?_
      refine go hc 1 (fun K hK => ?_)
      conv => whnf
      exact hQ m1 h1 hm r1 n1 f1
  refine enter rfl rfl (fun call hc => go hc 4 (fun K hK => ?_))
  conv => whnf
  by_cases c1 : v.1 = 0
  · refine ⟨fun c_ => ?_, fun c_ => absurd ((kEq0 hv.1).mpr c1) c_⟩
    conv => whnf
    refine hK _ _ _ _ _ _ (go hc 4 (fun K hK => ?_))
    conv => whnf
    by_cases c2 : v.2.1 = 0
    · refine ⟨fun c_ => ?_, fun c_ => absurd ((kEq0 hv.2.1).mpr c2) c_⟩
      conv => whnf
      refine hK _ _ _ _ _ _ (go hc 4 (fun K hK => ?_))
      conv => whnf
      by_cases c3 : v.2.2 = 0
      · refine ⟨fun c_ => ?_, fun c_ => absurd ((kEq0 hv.2.2).mpr c3) c_⟩
        conv => whnf
        refine hK _ _ _ _ _ _ (go hc 1 (fun K hK => ?_))
        conv => whnf
        rw [if_pos (Prod.ext c1 (Prod.ext c2 c3))] at hQ
        exact hQ m h hm hK0 hkn Fx.refl
      · refine ⟨fun c_ => absurd c_ (fun q => c3 ((kEq0 hv.2.2).mp q)), fun c_ => ?_⟩
        conv => whnf
        try simp only [nI_1]
        refine hK _ _ _ _ _ _ (Runs.less hc [0, 1, 3, 5, 7] rfl rfl rfl rfl (go20 hc fun q => c3 (congrArg (fun v : V3 => v.2.2) q)))
    · refine ⟨fun c_ => absurd c_ (fun q => c2 ((kEq0 hv.2.1).mp q)), fun c_ => ?_⟩
      conv => whnf
      try simp only [nI_1]
      refine hK _ _ _ _ _ _ (Runs.less hc [0, 1, 3, 5, 7] rfl rfl rfl rfl (go20 hc fun q => c2 (congrArg (fun v : V3 => v.2.1) q)))
  · refine ⟨fun c_ => absurd c_ (fun q => c1 ((kEq0 hv.1).mp q)), fun c_ => ?_⟩
    conv => whnf
    try simp only [nI_1]
    refine hK _ _ _ _ _ _ (Runs.less hc [0, 1, 3, 5, 7] rfl rfl rfl rfl (go20 hc fun q => c1 (congrArg Prod.fst q)))
end ETAKE
