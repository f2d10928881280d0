/-! CONES: what lines and edges make; primitive vectors -/
/-- all that lines and edges make: the least set that holds them and is closed -/
def Hl (L E : List V3) (x : V3) : Prop := ∀ S : V3 → Prop, S O3 → (∀ u v, S u → S v → S (ad u v)) → (∀ k u, 0 < k → S (sm k u) → S u) → (∀ l ∈ L, ∀ k, S (sm k l)) → (∀ e ∈ E, ∀ k, 0 ≤ k → S (sm k e)) → S x
section HULL
variable {L E L' E' : List V3} {x y a : V3}
theorem Hl.zero : Hl L E O3 := fun _ h0 _ _ _ _ => h0
theorem Hl.add (hx : Hl L E x) (hy : Hl L E y) : Hl L E (ad x y) := fun S h0 h1 h2 h3 h4 => h1 _ _ (hx S h0 h1 h2 h3 h4) (hy S h0 h1 h2 h3 h4)
theorem Hl.sat {k : Int} (hk : 0 < k) (hx : Hl L E (sm k x)) : Hl L E x := fun S h0 h1 h2 h3 h4 => h2 k _ hk (hx S h0 h1 h2 h3 h4)
theorem Hl.line {l : V3} (hl : l ∈ L) (k : Int) : Hl L E (sm k l) := fun _ _ _ _ h3 _ => h3 l hl k
theorem Hl.edge {e : V3} (he : e ∈ E) {k : Int} (hk : 0 ≤ k) : Hl L E (sm k e) := fun _ _ _ _ _ h4 => h4 e he k hk
theorem Hl.one {e : V3} (he : e ∈ E) : Hl L E e := by have := Hl.edge (L := L) he (k := 1) (by omega); rw [sm_1] at this; exact this
theorem Hl.smul (hx : Hl L E x) : ∀ {k : Int}, 0 ≤ k → Hl L E (sm k x) := by
  refine hx (fun x => ∀ {k : Int}, 0 ≤ k → Hl L E (sm k x)) ?_ ?_ ?_ ?_ ?_
  · intro k _; rw [sm_O]; exact Hl.zero
  · intro u v hu hv k hk; rw [sm_ad]; exact Hl.add (hu hk) (hv hk)
  · intro m u hm hu k hk
    refine Hl.sat hm ?_
    rw [sm_sm, Int.mul_comm, ← sm_sm]
    have := hu hk
    exact this
  · intro l hl m k _; rw [sm_sm]; exact Hl.line hl _
  · intro e he m hm k hk; rw [sm_sm]; exact Hl.edge he (Int.mul_nonneg hk hm)
/-- what holds of lines and edges, and goes over to all -/
theorem Hl.sub (hx : Hl L E x) (hL : ∀ l ∈ L, ∀ k, Hl L' E' (sm k l)) (hE : ∀ e ∈ E, Hl L' E' e) : Hl L' E' x :=
  hx (Hl L' E') Hl.zero (fun _ _ => Hl.add) (fun _ _ => Hl.sat) hL (fun e he _ hk => Hl.smul (hE e he) hk)
theorem Hl.mono (hx : Hl L E x) (hL : ∀ l ∈ L, l ∈ L') (hE : ∀ e ∈ E, e ∈ E') : Hl L' E' x := hx.sub (fun l hl k => Hl.line (hL l hl) k) (fun e he => Hl.one (hE e he))
theorem Hl.nn (hx : Hl L E x) (hL : ∀ l ∈ L, dot a l = 0) (hE : ∀ e ∈ E, 0 ≤ dot a e) : 0 ≤ dot a x := by
  refine hx (fun x => 0 ≤ dot a x) ?_ ?_ ?_ ?_ ?_
  · rw [dot_0]; omega
  · intro u v hu hv; rw [dot_ad]; omega
  · intro k u hk hu
    rw [dot_sm] at hu
    exact Int.le_of_mul_le_mul_left (by rw [Int.mul_zero]; exact hu) hk
  · intro l hl k; rw [dot_sm, hL l hl]; simp
  · intro e he k hk; rw [dot_sm]; exact Int.mul_nonneg hk (hE e he)
theorem Hl.z (hx : Hl L E x) (hL : ∀ l ∈ L, dot a l = 0) (hE : ∀ e ∈ E, dot a e = 0) : dot a x = 0 := by
  have h1 := hx.nn hL (fun e he => by have := hE e he; omega)
  have h2 := hx.nn (a := neg3 a) (fun l hl => by rw [neg_dot, hL l hl]; rfl) (fun e he => by rw [neg_dot, hE e he]; omega)
  rw [neg_dot] at h2
  omega
/-- where it is 0, only edges where it is 0 are needed -/
theorem Hl.tight (hx : Hl L E x) (hL : ∀ l ∈ L, dot a l = 0) (hE : ∀ e ∈ E, 0 ≤ dot a e) (h0 : dot a x = 0) : Hl L (E.filter fun e => decide (dot a e = 0)) x := by
  have key : 0 ≤ dot a x ∧ (dot a x = 0 → Hl L (E.filter fun e => decide (dot a e = 0)) x) := by
    refine hx (fun x => 0 ≤ dot a x ∧ (dot a x = 0 → Hl L (E.filter fun e => decide (dot a e = 0)) x)) ?_ ?_ ?_ ?_ ?_
    · rw [dot_0]; exact ⟨by omega, fun _ => Hl.zero⟩
    · intro u v hu hv
      rw [dot_ad]
      exact ⟨by omega, fun h => Hl.add (hu.2 (by omega)) (hv.2 (by omega))⟩
    · intro k u hk hu
      rw [dot_sm] at hu
      have h1 : 0 ≤ dot a u := Int.le_of_mul_le_mul_left (by rw [Int.mul_zero]; exact hu.1) hk
      exact ⟨h1, fun h => Hl.sat hk (hu.2 (by rw [h, Int.mul_zero]))⟩
    · intro l hl k
      rw [dot_sm, hL l hl]
      exact ⟨by simp, fun _ => Hl.line hl k⟩
    · intro e he k hk
      rw [dot_sm]
      refine ⟨Int.mul_nonneg hk (hE e he), fun h => ?_⟩
      rcases Int.mul_eq_zero.mp h with h | h
      · rw [h, sm_0]; exact Hl.zero
      · exact Hl.edge (List.mem_filter.mpr ⟨he, decide_eq_true h⟩) hk
  exact key.2 h0
/-- what is linear goes over -/
theorem Hl.map (hx : Hl L E x) (f : V3 → V3) (hf : ∀ u v, f (ad u v) = ad (f u) (f v)) (hk : ∀ k u, f (sm k u) = sm k (f u)) (hL : ∀ l ∈ L, ∀ k, Hl L' E' (sm k (f l))) (hE : ∀ e ∈ E, Hl L' E' (f e)) : Hl L' E' (f x) := by
  refine hx (fun x => Hl L' E' (f x)) ?_ ?_ ?_ ?_ ?_
  · have := hk 0 O3
    rw [sm_0, sm_0] at this
    rw [this]; exact Hl.zero
  · intro u v hu hv; rw [hf]; exact Hl.add hu hv
  · intro k u h0 hu
    rw [hk] at hu
    exact Hl.sat h0 hu
  · intro l hl k; rw [hk]; exact hL l hl k
  · intro e he k h0; rw [hk]; exact Hl.smul (hE e he) h0
theorem Hl.nil (hx : Hl [] [] x) : x = O3 := by
  refine hx (fun x => x = O3) rfl ?_ ?_ ?_ ?_
  · intro u v hu hv; rw [hu, hv]; exact ad_O _
  · intro k u hk hu
    exact Classical.byContradiction fun h => sm_ne (by omega) h hu
  · intro l hl; exact absurd hl List.not_mem_nil
  · intro l hl; exact absurd hl List.not_mem_nil
theorem Hl.ray {e : V3} (hx : Hl [] [e] x) : ∃ k m : Int, 0 < k ∧ 0 ≤ m ∧ sm k x = sm m e := by
  refine hx (fun x => ∃ k m : Int, 0 < k ∧ 0 ≤ m ∧ sm k x = sm m e) ?_ ?_ ?_ ?_ ?_
  · exact ⟨1, 0, by omega, by omega, by rw [sm_O, sm_0]⟩
  · rintro u v ⟨k, m, h1, h2, h3⟩ ⟨k', m', h1', h2', h3'⟩
    refine ⟨k * k', m * k' + m' * k, Int.mul_pos h1 h1', Int.add_nonneg (Int.mul_nonneg h2 (by omega)) (Int.mul_nonneg h2' (by omega)), ?_⟩
    rw [sm_ad, Int.mul_comm k k', ← sm_sm, h3, Int.mul_comm k' k, ← sm_sm, h3']
    unfold sm ad
    refine v_ext ?_ ?_ ?_ <;> grind
  · rintro k u hk ⟨k', m, h1, h2, h3⟩
    exact ⟨k' * k, m, Int.mul_pos h1 hk, h2, by rw [← sm_sm, h3]⟩
  · intro l hl; exact absurd hl List.not_mem_nil
  · intro f hf k hk
    rw [List.mem_singleton.mp hf]
    exact ⟨1, k, by omega, hk, by rw [sm_1]⟩
end HULL
/-! primitive vectors -/
theorem gcd3_0 {v : V3} : gcd3 v = 0 ↔ v = O3 := by
  unfold gcd3
  rw [Nat.gcd_eq_zero_iff, Nat.gcd_eq_zero_iff]
  constructor
  · rintro ⟨⟨h1, h2⟩, h3⟩
    exact v_ext (by simpa using h1) (by simpa using h2) (by simpa using h3)
  · intro h; rw [h]; exact ⟨⟨rfl, rfl⟩, rfl⟩
theorem gcd3_sm (k : Int) (v : V3) : gcd3 (sm k v) = k.natAbs * gcd3 v := by
  unfold gcd3 sm
  simp only [Int.natAbs_mul]
  rw [Nat.gcd_mul_left, Nat.gcd_mul_left]
theorem gcd3_neg (v : V3) : gcd3 (neg3 v) = gcd3 v := by unfold gcd3 neg3; simp only [Int.natAbs_neg]
theorem gcd3_dvd (v : V3) : ((gcd3 v : Nat) : Int) ∣ v.1 ∧ ((gcd3 v : Nat) : Int) ∣ v.2.1 ∧ ((gcd3 v : Nat) : Int) ∣ v.2.2 := by
  unfold gcd3
  refine ⟨?_, ?_, ?_⟩
  · exact Int.ofNat_dvd_left.mpr (Nat.dvd_trans (Nat.gcd_dvd_left _ _) (Nat.gcd_dvd_left _ _))
  · exact Int.ofNat_dvd_left.mpr (Nat.dvd_trans (Nat.gcd_dvd_left _ _) (Nat.gcd_dvd_right _ _))
  · exact Int.ofNat_dvd_left.mpr (Nat.gcd_dvd_right _ _)
theorem sm_div3 (v : V3) : sm (gcd3 v : Int) (div3 v (gcd3 v : Int)) = v := by
  obtain ⟨h1, h2, h3⟩ := gcd3_dvd v
  unfold sm div3
  exact v_ext (Int.mul_tdiv_cancel' h1) (Int.mul_tdiv_cancel' h2) (Int.mul_tdiv_cancel' h3)
theorem gcd3_div3 {v : V3} (h : v ≠ O3) : gcd3 (div3 v (gcd3 v : Int)) = 1 := by
  have h0 : gcd3 v ≠ 0 := fun q => h (gcd3_0.mp q)
  have := congrArg gcd3 (sm_div3 v)
  rw [gcd3_sm, Int.natAbs_natCast] at this
  exact Nat.eq_of_mul_eq_mul_left (Nat.pos_of_ne_zero h0) (by rw [Nat.mul_one]; exact this)
theorem prim_ne {v : V3} (h : gcd3 v = 1) : v ≠ O3 := fun q => by
  have := gcd3_0.mpr q
  omega
theorem prim_eq {u v : V3} {k m : Int} (hu : gcd3 u = 1) (hv : gcd3 v = 1) (hk : 0 < k) (hm : 0 ≤ m) (h : sm k u = sm m v) : u = v := by
  have h1 := congrArg gcd3 h
  rw [gcd3_sm, gcd3_sm, hu, hv] at h1
  have : m = k := by omega
  rw [this] at h
  exact sm_inj (by omega) h
/-- a mix: a positive multiple of it is the sum -/
theorem mix_spec {a b : Int} {v u : V3} (h : lin a b v u ≠ O3) : ∃ g : Int, 0 < g ∧ sm g (mixV a b v u) = lin a b v u ∧ gcd3 (mixV a b v u) = 1 := by
  have h0 : gcd3 (lin a b v u) ≠ 0 := fun q => h (gcd3_0.mp q)
  unfold mixV
  rw [if_neg h0]
  exact ⟨gcd3 (lin a b v u), by omega, sm_div3 _, gcd3_div3 h⟩
/-- u along v, both primitive: u is v or its opposite -/
theorem par_prim {u v : V3} (hu : gcd3 u = 1) (hv : gcd3 v = 1) (h : xp u v = O3) : u = v ∨ u = neg3 v := by
  have hd := dd_ne (prim_ne hu)
  have e : sm (dot u u) v = sm (dot u v) u := by
    have k1 : xp u (xp u v) = O3 := by rw [h]; unfold xp; refine v_ext ?_ ?_ ?_ <;> simp
    have : xp u (xp u v) = lin (dot u v) (-(dot u u)) u v := by unfold xp lin dot; refine v_ext ?_ ?_ ?_ <;> grind
    rw [k1] at this
    unfold lin at this
    have h1 := congrArg Prod.fst this; have h2 := congrArg (fun v : V3 => v.2.1) this; have h3 := congrArg (fun v : V3 => v.2.2) this
    simp only at h1 h2 h3
    unfold sm
    refine v_ext ?_ ?_ ?_ <;> grind
  rcases Int.le_total 0 (dot u v) with hs | hs
  · exact Or.inl (prim_eq hv hu hd hs e).symm
  · right
    have e2 : sm (dot u u) v = sm (-(dot u v)) (neg3 u) := by rw [e]; unfold sm neg3; refine v_ext ?_ ?_ ?_ <;> grind
    have := prim_eq hv (by rw [gcd3_neg]; exact hu) hd (by omega) e2
    rw [this, neg_neg3_z]
/-- along one line, and on one side -/
theorem par_prim' {u v a : V3} (hu : gcd3 u = 1) (hv : gcd3 v = 1) (h : xp u v = O3) (h1 : 0 < dot a u) (h2 : 0 ≤ dot a v) : u = v := by
  rcases par_prim hu hv h with h3 | h3
  · exact h3
  · rw [h3, dot_neg'] at h1
    omega
