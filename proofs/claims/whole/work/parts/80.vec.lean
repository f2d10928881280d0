/-! VECTORS OF THREE WHOLE NUMBERS -/
abbrev O3 : V3 := (0, 0, 0)
def d3 (u v w : V3) : Int := dot u (xp v w)
def sm (k : Int) (v : V3) : V3 := (k * v.1, k * v.2.1, k * v.2.2)
def ad (u v : V3) : V3 := (u.1 + v.1, u.2.1 + v.2.1, u.2.2 + v.2.2)
theorem v_ext {u v : V3} (h1 : u.1 = v.1) (h2 : u.2.1 = v.2.1) (h3 : u.2.2 = v.2.2) : u = v := Prod.ext h1 (Prod.ext h2 h3)
theorem v_iff {u v : V3} : u = v ↔ u.1 = v.1 ∧ u.2.1 = v.2.1 ∧ u.2.2 = v.2.2 := ⟨fun h => by rw [h]; exact ⟨rfl, rfl, rfl⟩, fun h => v_ext h.1 h.2.1 h.2.2⟩
theorem dot_comm (u v : V3) : dot u v = dot v u := by unfold dot; grind
theorem dot_ad (a u v : V3) : dot a (ad u v) = dot a u + dot a v := by unfold dot ad; grind
theorem dot_sm (a : V3) (k : Int) (v : V3) : dot a (sm k v) = k * dot a v := by unfold dot sm; grind
theorem dot_neg' (a v : V3) : dot a (neg3 v) = -(dot a v) := by unfold dot neg3; grind
theorem neg_dot (a v : V3) : dot (neg3 a) v = -(dot a v) := by unfold dot neg3; grind
theorem dot_0 (a : V3) : dot a O3 = 0 := by unfold dot; simp
theorem dot_lin (c : V3) (a b : Int) (v u : V3) : dot c (lin a b v u) = a * dot c v + b * dot c u := by unfold dot lin; grind
theorem lin_ad (a b : Int) (v u : V3) : lin a b v u = ad (sm a v) (sm b u) := rfl
theorem sm_sm (a b : Int) (v : V3) : sm a (sm b v) = sm (a * b) v := by unfold sm; refine v_ext ?_ ?_ ?_ <;> grind
theorem sm_ad (a : Int) (u v : V3) : sm a (ad u v) = ad (sm a u) (sm a v) := by unfold sm ad; refine v_ext ?_ ?_ ?_ <;> grind
theorem sm_1 (v : V3) : sm 1 v = v := by unfold sm; refine v_ext ?_ ?_ ?_ <;> simp
theorem sm_0 (v : V3) : sm 0 v = O3 := by unfold sm; refine v_ext ?_ ?_ ?_ <;> simp
theorem sm_O (k : Int) : sm k O3 = O3 := by unfold sm; refine v_ext ?_ ?_ ?_ <;> simp
theorem neg_sm (v : V3) : neg3 v = sm (-1) v := by unfold sm neg3; refine v_ext ?_ ?_ ?_ <;> simp
theorem neg_neg3_z (v : V3) : neg3 (neg3 v) = v := by unfold neg3; refine v_ext ?_ ?_ ?_ <;> simp
theorem ad_O (v : V3) : ad v O3 = v := by unfold ad; refine v_ext ?_ ?_ ?_ <;> simp
theorem O_ad (v : V3) : ad O3 v = v := by unfold ad; refine v_ext ?_ ?_ ?_ <;> simp
theorem lin_lin (s t : Int) (u v h : V3) : lin s t (ad u v) h = lin s t (ad u v) h := rfl
/-- a square that is 0 -/
theorem sq0 {a : Int} (h : a * a = 0) : a = 0 := by rcases Int.mul_eq_zero.mp h with h | h <;> exact h
theorem sq_nn (a : Int) : 0 ≤ a * a := by
  rcases Int.le_total 0 a with h | h
  · exact Int.mul_nonneg h h
  · have := Int.mul_nonneg (show 0 ≤ -a by omega) (show 0 ≤ -a by omega)
    rw [Int.neg_mul_neg] at this; exact this
theorem dd_0 {a : V3} (h : dot a a = 0) : a = O3 := by
  unfold dot at h
  have h1 := sq_nn a.1; have h2 := sq_nn a.2.1; have h3 := sq_nn a.2.2
  exact v_ext (sq0 (by omega)) (sq0 (by omega)) (sq0 (by omega))
theorem dd_ne {a : V3} (h : a ≠ O3) : 0 < dot a a := by
  have h0 : dot a a ≠ 0 := fun q => h (dd_0 q)
  have h1 := sq_nn a.1; have h2 := sq_nn a.2.1; have h3 := sq_nn a.2.2
  unfold dot at h0 ⊢
  omega
theorem xp_self (a : V3) : xp a a = O3 := by unfold xp; refine v_ext ?_ ?_ ?_ <;> grind
theorem xp_anti (a b : V3) : xp a b = neg3 (xp b a) := by unfold xp neg3; refine v_ext ?_ ?_ ?_ <;> grind
theorem xp_ne_symm {a b : V3} (h : xp a b ≠ O3) : xp b a ≠ O3 := fun q => h (by rw [xp_anti, q]; rfl)
theorem dot_xp_l (a b : V3) : dot a (xp a b) = 0 := by unfold dot xp; grind
theorem dot_xp_r (a b : V3) : dot b (xp a b) = 0 := by unfold dot xp; grind
theorem xp_xp (a b h : V3) : xp (xp a b) h = lin (dot a h) (-(dot b h)) b a := by unfold xp lin dot; refine v_ext ?_ ?_ ?_ <;> grind
theorem xp_lin (a b : Int) (v u w : V3) : xp (lin a b v u) w = lin a b (xp v w) (xp u w) := by unfold xp lin; refine v_ext ?_ ?_ ?_ <;> grind
theorem xp_lin' (a b : Int) (v u w : V3) : xp w (lin a b v u) = lin a b (xp w v) (xp w u) := by unfold xp lin; refine v_ext ?_ ?_ ?_ <;> grind
theorem xp_sm (k : Int) (v w : V3) : xp (sm k v) w = sm k (xp v w) := by unfold xp sm; refine v_ext ?_ ?_ ?_ <;> grind
theorem xp_sm' (k : Int) (v w : V3) : xp v (sm k w) = sm k (xp v w) := by unfold xp sm; refine v_ext ?_ ?_ ?_ <;> grind
theorem sm_ne {k : Int} {v : V3} (hk : k ≠ 0) (hv : v ≠ O3) : sm k v ≠ O3 := by
  intro h
  apply hv
  unfold sm at h
  have h1 := congrArg Prod.fst h; have h2 := congrArg (fun v : V3 => v.2.1) h; have h3 := congrArg (fun v : V3 => v.2.2) h
  simp only at h1 h2 h3
  exact v_ext ((Int.mul_eq_zero.mp h1).resolve_left hk) ((Int.mul_eq_zero.mp h2).resolve_left hk) ((Int.mul_eq_zero.mp h3).resolve_left hk)
theorem sm_inj {k : Int} {u v : V3} (hk : k ≠ 0) (h : sm k u = sm k v) : u = v := by
  unfold sm at h
  have h1 := congrArg Prod.fst h; have h2 := congrArg (fun v : V3 => v.2.1) h; have h3 := congrArg (fun v : V3 => v.2.2) h
  simp only at h1 h2 h3
  exact v_ext (Int.eq_of_mul_eq_mul_left hk h1) (Int.eq_of_mul_eq_mul_left hk h2) (Int.eq_of_mul_eq_mul_left hk h3)
/-- a, b along one line: what is 0 on a is 0 on b -/
theorem par_dot {a b h : V3} (ha : a ≠ O3) (hp : xp a b = O3) (h0 : dot a h = 0) : dot b h = 0 := by
  have e : dot (xp a b) (xp a h) = dot a a * dot b h - dot a h * dot a b := by unfold dot xp; grind
  rw [hp, h0, dot_comm, dot_0] at e
  have h1 := dd_ne ha
  have h2 : dot a a * dot b h = 0 := by omega
  exact (Int.mul_eq_zero.mp h2).resolve_left (by omega)
/-- two vectors that are 0 on two others apart are along one line -/
theorem perp2 {a b u v : V3} (ha : dot a u = 0) (ha' : dot a v = 0) (hb : dot b u = 0) (hb' : dot b v = 0) (h : xp u v ≠ O3) : xp a b = O3 := by
  have e1 : xp (xp u v) a = O3 := by
    rw [xp_xp, dot_comm u a, dot_comm v a, ha, ha']
    unfold lin; refine v_ext ?_ ?_ ?_ <;> simp
  have e2 : xp (xp u v) b = O3 := by
    rw [xp_xp, dot_comm u b, dot_comm v b, hb, hb']
    unfold lin; refine v_ext ?_ ?_ ?_ <;> simp
  -- a and b along w
  generalize xp u v = w at *
  have f1 : dot a (xp a b) = 0 := dot_xp_l a b
  refine Classical.byContradiction fun hn => ?_
  have g1 : dot w (xp a b) = 0 := by
    have : dot w (xp a b) = dot (xp w a) b := by unfold dot xp; grind
    rw [this, e1, dot_comm, dot_0]
  -- |a x b|^2 w.w = ..
  have g2 : sm (dot w w) (xp a b) = O3 := by
    have k1 : xp w (xp w a) = O3 := by rw [e1]; unfold xp; refine v_ext ?_ ?_ ?_ <;> simp
    have k2 : sm (dot w w) a = sm (dot w a) w := by
      have : xp w (xp w a) = lin (dot w a) (-(dot w w)) w a := by unfold xp lin dot; refine v_ext ?_ ?_ ?_ <;> grind
      rw [k1] at this
      unfold lin at this
      have h1 := congrArg Prod.fst this; have h2 := congrArg (fun v : V3 => v.2.1) this; have h3 := congrArg (fun v : V3 => v.2.2) this
      simp only at h1 h2 h3
      unfold sm
      refine v_ext ?_ ?_ ?_ <;> grind
    rw [← xp_sm, k2, xp_sm, e2, sm_O]
  exact sm_ne (by have := dd_ne h; omega) hn g2
/-- how many rows apart there are -/
def Rk (A : V3 → Prop) : Nat → Prop
  | 0 => True
  | 1 => ∃ a, A a ∧ a ≠ O3
  | 2 => ∃ a b, A a ∧ A b ∧ xp a b ≠ O3
  | _ => ∃ a b c, A a ∧ A b ∧ A c ∧ d3 a b c ≠ 0
theorem Rk.mono {A B : V3 → Prop} (h : ∀ a, A a → B a) : ∀ {n : Nat}, Rk A n → Rk B n
  | 0, _ => trivial
  | 1, ⟨a, h1, h2⟩ => ⟨a, h a h1, h2⟩
  | 2, ⟨a, b, h1, h2, h3⟩ => ⟨a, b, h a h1, h b h2, h3⟩
  | _ + 3, ⟨a, b, c, h1, h2, h3, h4⟩ => ⟨a, b, c, h a h1, h b h2, h c h3, h4⟩
theorem Rk.more {A : V3 → Prop} {b h : V3} (hA : ∀ a, A a → dot a h = 0) (hb : dot b h ≠ 0) : ∀ {n : Nat}, n < 3 → Rk A n → Rk (fun v => A v ∨ v = b) (n + 1)
  | 0, _, _ => ⟨b, Or.inr rfl, fun q => hb (by rw [q, dot_comm, dot_0])⟩
  | 1, _, ⟨a, h1, h2⟩ => ⟨a, b, Or.inl h1, Or.inr rfl, fun q => hb (par_dot h2 q (hA a h1))⟩
  | 2, _, ⟨a, c, h1, h2, h3⟩ => ⟨b, a, c, Or.inr rfl, Or.inl h1, Or.inl h2, fun q => by
    have e1 : xp (xp a c) h = O3 := by
      rw [xp_xp, hA a h1, hA c h2]
      unfold lin; refine v_ext ?_ ?_ ?_ <;> simp
    have := par_dot (h := b) h3 e1 (by rw [dot_comm]; exact q)
    exact hb (by rw [dot_comm]; exact this)⟩
  | _ + 3, h, _ => by omega
