/-! HOW LARGE THE NUMBERS GET -/
def un : Nat → V3
  | 0 => (1, 0, 0)
  | 1 => (0, 1, 0)
  | _ => (0, 0, 1)
theorem dot_un (v : V3) : ∀ j, dot (un j) v = cmp3 v j
  | 0 => by unfold dot un cmp3; simp
  | 1 => by unfold dot un cmp3; simp
  | _ + 2 => by unfold dot un cmp3; simp
theorem bd_comp {g x y B : Int} (hg : 0 < g) (h : g * x = y) (hB : bdI B y) : bdI B x := by
  obtain ⟨h1, h2⟩ := hB
  constructor
  · refine Classical.byContradiction fun hn => ?_
    by_cases hx : 0 ≤ x
    · have := Int.mul_nonneg (show 0 ≤ g by omega) hx
      omega
    · have : g * x ≤ 1 * x := Int.mul_le_mul_of_nonpos_right (by omega) (by omega)
      omega
  · refine Classical.byContradiction fun hn => ?_
    by_cases hx : 0 ≤ x
    · have : 1 * x ≤ g * x := Int.mul_le_mul_of_nonneg_right (by omega) hx
      omega
    · have := Int.mul_nonneg (show 0 ≤ g by omega) (show 0 ≤ -x by omega)
      rw [Int.mul_neg] at this
      omega
theorem bdV_neg {B : Int} {v : V3} (h : bdV B v) : bdV B (neg3 v) := by
  obtain ⟨⟨h1, h2⟩, ⟨h3, h4⟩, ⟨h5, h6⟩⟩ := h
  unfold bdV bdI neg3
  simp only
  omega
theorem bdV_mono {B C : Int} {v : V3} (hBC : B ≤ C) (h : bdV B v) : bdV C v := by
  obtain ⟨⟨h1, h2⟩, ⟨h3, h4⟩, ⟨h5, h6⟩⟩ := h
  exact ⟨⟨by omega, by omega⟩, ⟨by omega, by omega⟩, ⟨by omega, by omega⟩⟩
theorem prim_bd {v a b : V3} {B : Int} (hv : gcd3 v = 1) (ha : dot a v = 0) (hb : dot b v = 0) (hx : xp a b ≠ O3) (hB : bdV B (xp a b)) : bdV B v := by
  have e1 : xp (xp a b) v = O3 := by rw [xp_xp, ha, hb]; exact lin_00 _ _
  have hd := sm_div3 (xp a b)
  have hp := gcd3_div3 hx
  have hg : 0 < gcd3 (xp a b) := Nat.pos_of_ne_zero fun q => hx (gcd3_0.mp q)
  generalize xp a b = w at *
  generalize hw : div3 w (gcd3 w : Int) = w' at *
  have hg' : (0 : Int) < (gcd3 w : Int) := by omega
  have e2 : xp v w' = O3 := by
    have : sm (gcd3 w : Int) (xp w' v) = O3 := by rw [← xp_sm, hd]; exact e1
    have h2 : xp w' v = O3 := Classical.byContradiction fun q => sm_ne (by omega) q this
    rw [xp_anti, h2]; rfl
  have bw : bdV B w' := by
    have h1 := congrArg Prod.fst hd; have h2 := congrArg (fun v : V3 => v.2.1) hd; have h3 := congrArg (fun v : V3 => v.2.2) hd
    exact ⟨bd_comp hg' h1 hB.1, bd_comp hg' h2 hB.2.1, bd_comp hg' h3 hB.2.2⟩
  rcases par_prim hv hp e2 with h | h
  · rw [h]; exact bw
  · rw [h]; exact bdV_neg bw
theorem bd_mul_z {R S a b : Int} (ha : bdI R a) (hb : bdI S b) : bdI (R * S) (a * b) := by
  obtain ⟨h1, h2⟩ := ha
  obtain ⟨h3, h4⟩ := hb
  have hR : 0 ≤ R := by omega
  have hS : 0 ≤ S := by omega
  have k1 := Int.mul_nonneg (show 0 ≤ R - a by omega) (show 0 ≤ S - b by omega)
  have k2 := Int.mul_nonneg (show 0 ≤ R + a by omega) (show 0 ≤ S + b by omega)
  have k3 := Int.mul_nonneg (show 0 ≤ R - a by omega) (show 0 ≤ S + b by omega)
  have k4 := Int.mul_nonneg (show 0 ≤ R + a by omega) (show 0 ≤ S - b by omega)
  constructor <;> grind
theorem bd_xp_z {R S : Int} {a b : V3} (ha : bdV R a) (hb : bdV S b) : bdV (2 * (R * S)) (xp a b) := by
  obtain ⟨a1, a2, a3⟩ := ha
  obtain ⟨b1, b2, b3⟩ := hb
  have q1 := bd_mul_z a2 b3; have q2 := bd_mul_z a3 b2; have q3 := bd_mul_z a3 b1; have q4 := bd_mul_z a1 b3; have q5 := bd_mul_z a1 b2; have q6 := bd_mul_z a2 b1
  unfold bdI at *
  unfold bdV xp bdI
  simp only
  omega
theorem bd_un {R : Int} {a : V3} (ha : bdV R a) (hR : 0 ≤ R) : ∀ j, bdV R (xp a (un j))
  | 0 => by
    obtain ⟨⟨h1, h2⟩, ⟨h3, h4⟩, ⟨h5, h6⟩⟩ := ha
    unfold bdV xp bdI un
    simp only [Int.mul_zero, Int.mul_one, Int.sub_zero, Int.zero_sub]
    omega
  | 1 => by
    obtain ⟨⟨h1, h2⟩, ⟨h3, h4⟩, ⟨h5, h6⟩⟩ := ha
    unfold bdV xp bdI un
    simp only [Int.mul_zero, Int.mul_one, Int.sub_zero, Int.zero_sub]
    omega
  | _ + 2 => by
    obtain ⟨⟨h1, h2⟩, ⟨h3, h4⟩, ⟨h5, h6⟩⟩ := ha
    unfold bdV xp bdI un
    simp only [Int.mul_zero, Int.mul_one, Int.sub_zero, Int.zero_sub]
    omega
theorem bd_unn : ∀ j, bdV 1 (un j)
  | 0 => by unfold bdV bdI un; simp
  | 1 => by unfold bdV bdI un; simp
  | _ + 2 => by unfold bdV bdI un; simp
section BD
variable {A : V3 → Prop} {L E : List V3} {R : Int}
/-- rows keep below twice the square; if there is a line they keep below R -/
theorem Inv_z.bound (h : Inv_z A L E) (hR : 1 ≤ R) (hA : ∀ a, A a → bdV R a) : (∀ e ∈ E, bdV (2 * (R * R)) e ∧ (L ≠ [] → bdV R e)) ∧ ∀ l ∈ L, bdV (2 * (R * R)) l ∧ (2 ≤ L.length → bdV R l) := by
  obtain ⟨⟨a1, a2, a3, a4⟩, ⟨b1, b2, b3⟩, ⟨J, c1, c2, c3⟩, d, e⟩ := h
  have hRR : R ≤ 2 * (R * R) := by
    have : R * 1 ≤ R * R := Int.mul_le_mul_of_nonneg_left hR (by omega)
    omega
  -- a row of A and a column
  have one : ∀ {a v : V3} {k : Nat}, A a → a ≠ O3 → k < L.length → dot a v = 0 → cmp3 v (J k) = 0 → gcd3 v = 1 → bdV R v := by
    intro a v k ha ha0 hk h1 h2 h3
    refine prim_bd h3 h1 (by rw [dot_un]; exact h2) (fun q => ?_) (bd_un (hA a ha) (by omega) (J k))
    have := par_dot (h := gt L k) ha0 q (a1 a ha _ (gt_mem hk))
    rw [dot_un] at this
    exact (c1 k hk).2 this
  have two : ∀ {v : V3} {i k : Nat}, i < L.length → k < L.length → i ≠ k → cmp3 v (J i) = 0 → cmp3 v (J k) = 0 → gcd3 v = 1 → bdV R v := by
    intro v i k hi hk hne h1 h2 h3
    refine prim_bd (a := un (J i)) (b := un (J k)) h3 (by rw [dot_un]; exact h1) (by rw [dot_un]; exact h2) (fun q => ?_) (bdV_mono (B := 1) hR (bd_un (bd_unn _) (by omega) _))
    have := par_dot (h := gt L k) (a := un (J i)) (b := un (J k)) (fun z => ?_) q (by rw [dot_un]; exact c2 k i hk hi (fun z => hne z.symm))
    · rw [dot_un] at this
      exact (c1 k hk).2 this
    · have : dot (un (J i)) (gt L i) = 0 := by rw [z, dot_comm, dot_0]
      rw [dot_un] at this
      exact (c1 i hi).2 this
  constructor
  · intro f hf
    obtain ⟨k1, k2, k3⟩ := b1 f hf
    have hlE : 0 < E.length := List.length_pos_of_mem hf
    by_cases hL : L.length = 0
    · rw [hL] at k3
      obtain ⟨a, b, ha, hb, hx⟩ := k3
      exact ⟨prim_bd k2 ha.2 hb.2 hx (bd_xp_z (hA a ha.1) (hA b hb.1)), fun q => absurd (List.length_eq_zero_iff.mp hL) q⟩
    · have hd := d (fun q => hL (by rw [q]; rfl))
      have : bdV R f := by
        by_cases h1 : L.length = 1
        · rw [h1] at k3
          obtain ⟨a, ha, ha0⟩ := k3
          exact one (k := 0) ha.1 ha0 (by omega) ha.2 (c3 f hf 0 (by omega)) k2
        · exact two (i := 0) (k := 1) (by omega) (by omega) (by omega) (c3 f hf 0 (by omega)) (c3 f hf 1 (by omega)) k2
      exact ⟨bdV_mono hRR this, fun _ => this⟩
  · intro l hl
    obtain ⟨i, hi, he⟩ := List.getElem_of_mem hl
    have hgl : gt L i = l := gt_of (List.getElem?_eq_some_iff.mpr ⟨hi, he⟩)
    have hlp := b2 l hl
    by_cases h1 : L.length = 1
    · rw [h1] at a3
      obtain ⟨a, b, ha, hb, hx⟩ := a3
      exact ⟨prim_bd hlp (a1 a ha l hl) (a1 b hb l hl) hx (bd_xp_z (hA a ha) (hA b hb)), fun q => by omega⟩
    · have : bdV R l := by
        by_cases h2 : L.length = 2
        · rw [h2] at a3
          obtain ⟨a, ha, ha0⟩ := a3
          have hk : ∃ k, k < L.length ∧ k ≠ i := by
            by_cases c : i = 0
            · exact ⟨1, by omega, by omega⟩
            · exact ⟨0, by omega, by omega⟩
          obtain ⟨k, hk, hki⟩ := hk
          exact one (k := k) ha ha0 hk (a1 a ha l hl) (by rw [← hgl]; exact c2 i k hi hk (fun q => hki q.symm)) hlp
        · have hk : ∃ j k, j < L.length ∧ k < L.length ∧ j ≠ k ∧ j ≠ i ∧ k ≠ i := by
            have : i = 0 ∨ i = 1 ∨ i = 2 := by omega
            rcases this with h | h | h
            · exact ⟨1, 2, by omega, by omega, by omega, by omega, by omega⟩
            · exact ⟨0, 2, by omega, by omega, by omega, by omega, by omega⟩
            · exact ⟨0, 1, by omega, by omega, by omega, by omega, by omega⟩
          obtain ⟨j, k, hj, hk, hjk, hji, hki⟩ := hk
          exact two (i := j) (k := k) hj hk hjk (by rw [← hgl]; exact c2 i j hi hj (fun q => hji q.symm)) (by rw [← hgl]; exact c2 i k hi hk (fun q => hki q.symm)) hlp
      exact ⟨bdV_mono hRR this, fun _ => this⟩
end BD
