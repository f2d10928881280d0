/-! SORTS: both end in the one order -/
def gsk (r : V3 → V3 → Bool) : Nat → List V3 → List V3
  | 0, l => l
  | k + 1, l => if r (gt l (k + 1)) (gt l k) = true then gsk r k (swp l (k + 1) k) else l
def gst (r : V3 → V3 → Bool) : Nat → Nat → List V3 → List V3
  | 0, _, l => l
  | n + 1, i, l => gst r n (i + 1) (gsk r i l)
theorem sink_g (c : Nat) : ∀ (k : Nat) (l : List V3), sink c k l = gsk (bf c) k l
  | 0, _ => rfl
  | k + 1, l => by unfold sink gsk; rw [sink_g c k]
theorem srtN_g (c : Nat) : ∀ (n i : Nat) (l : List V3), srtN c n i l = gst (bf c) n i l
  | 0, _, _ => rfl
  | n + 1, i, l => by unfold srtN gst; rw [sink_g, srtN_g c n]
theorem snk_g (c : Nat) : ∀ (k : Nat) (l : List V3), snk c k l = gsk (fun v u => aft c u v) k l
  | 0, _ => rfl
  | k + 1, l => by unfold snk gsk; rw [snk_g c k]
theorem srK_g (c : Nat) : ∀ (n i : Nat) (l : List V3), srK c n i l = gst (fun v u => aft c u v) n i l
  | 0, _, _ => rfl
  | n + 1, i, l => by unfold srK gst; rw [snk_g, srK_g c n]
theorem gt_get {l : List V3} {i : Nat} (h : i < l.length) : gt l i = l[i] := by
  unfold gt
  rw [List.getD_eq_getElem?_getD, List.getElem?_eq_getElem h]; rfl
theorem swp_perm {l : List V3} {i k : Nat} (hi : i < l.length) (hk : k < l.length) : (swp l i k).Perm l := by
  unfold swp
  rw [gt_get hi, gt_get hk]
  exact List.set_set_perm hi hk
theorem swp_get {l : List V3} {i k j : Nat} (hi : i < l.length) (hk : k < l.length) (hj : j < l.length) (_hik : i ≠ k) : gt (swp l i k) j = if j = k then gt l i else if j = i then gt l k else gt l j := by
  have hl : (swp l i k).length = l.length := (swp_perm hi hk).length_eq
  rw [gt_get (by omega)]
  unfold swp
  rw [List.getElem_set]
  by_cases c : k = j
  · rw [if_pos c, if_pos c.symm]
  · rw [if_neg c, if_neg (fun q => c q.symm), List.getElem_set]
    by_cases c2 : i = j
    · rw [if_pos c2, if_pos c2.symm]
    · rw [if_neg c2, if_neg (fun q => c2 q.symm), gt_get hj]
section SORT
variable {r : V3 → V3 → Bool} {D : V3 → Prop}
theorem gsk_perm : ∀ {k : Nat} {l : List V3}, (k = 0 ∨ k < l.length) → (gsk r k l).Perm l
  | 0, l, _ => List.Perm.refl _
  | k + 1, l, h => by
    unfold gsk
    split
    · have p := swp_perm (l := l) (i := k + 1) (k := k) (by omega) (by omega)
      exact (gsk_perm (by rw [p.length_eq]; omega)).trans p
    · exact List.Perm.refl _
theorem gst_perm : ∀ {n i : Nat} {l : List V3}, (n = 0 ∨ i + n ≤ l.length) → (gst r n i l).Perm l
  | 0, _, l, _ => List.Perm.refl _
  | n + 1, i, l, h => by
    unfold gst
    have p := gsk_perm (r := r) (k := i) (l := l) (by omega)
    exact (gst_perm (by rw [p.length_eq]; omega)).trans p
/-- the order: what may stand before what -/
def OrdV (r : V3 → V3 → Bool) (D : V3 → Prop) : Prop := (∀ x y, D x → D y → r x y = true → r y x = false) ∧ ∀ x y z, D x → D y → D z → r y x = false → r z y = false → r z x = false
def Upto (r : V3 → V3 → Bool) (l : List V3) (n : Nat) : Prop := ∀ i j, i < j → j < n → r (gt l j) (gt l i) = false
theorem gsk_sorted (hO : OrdV r D) {n : Nat} : ∀ {k : Nat} {l : List V3}, (∀ x ∈ l, D x) → n ≤ l.length → k < n → (∀ i j, i < j → j < n → i ≠ k → j ≠ k → r (gt l j) (gt l i) = false) → (∀ j, k < j → j < n → r (gt l j) (gt l k) = false) → Upto r (gsk r k l) n
  | 0, l, _, _, _, h1, h2 => by
    intro i j hij hj
    by_cases c : i = 0
    · subst c; exact h2 j hij hj
    · exact h1 i j hij hj c (by omega)
  | k + 1, l, hD, hn, hk, h1, h2 => by
    unfold gsk
    have d : ∀ i, i < n → D (gt l i) := fun i hi => hD _ (gt_mem (by omega))
    split
    · rename_i c
      have p := swp_perm (l := l) (i := k + 1) (k := k) (by omega) (by omega)
      have g : ∀ j, j < n → gt (swp l (k + 1) k) j = if j = k then gt l (k + 1) else if j = k + 1 then gt l k else gt l j := fun j hj => swp_get (by omega) (by omega) (by omega) (by omega)
      refine gsk_sorted hO (fun x hx => hD x (p.mem_iff.mp hx)) (by rw [p.length_eq]; exact hn) (by omega) ?_ ?_
      · intro i j hij hj hi' hj'
        rw [g i (by omega), g j hj, if_neg hi', if_neg hj']
        by_cases ci : i = k + 1
        · rw [if_pos ci, if_neg (by omega)]
          exact h1 k j (by omega) hj (by omega) (by omega)
        · rw [if_neg ci]
          by_cases cj : j = k + 1
          · rw [if_pos cj]
            exact h1 i k (by omega) (by omega) ci (by omega)
          · rw [if_neg cj]
            exact h1 i j hij hj ci cj
      · intro j hkj hj
        rw [g k (by omega), g j hj, if_pos rfl, if_neg (by omega)]
        by_cases cj : j = k + 1
        · rw [if_pos cj]
          exact hO.1 _ _ (d _ (by omega)) (d _ (by omega)) c
        · rw [if_neg cj]
          exact h2 j (by omega) hj
    · rename_i c
      have c : r (gt l (k + 1)) (gt l k) = false := by simpa using c
      intro i j hij hj
      by_cases ci : i = k + 1
      · subst ci; exact h2 j hij hj
      · by_cases cj : j = k + 1
        · subst cj
          by_cases ck : i = k
          · subst ck; exact c
          · exact hO.2 _ _ _ (d _ (by omega)) (d k (by omega)) (d _ (by omega)) (h1 i k (by omega) (by omega) ci (by omega)) c
        · exact h1 i j hij hj ci cj
theorem gst_sorted (hO : OrdV r D) : ∀ {n i : Nat} {l : List V3}, (∀ x ∈ l, D x) → i + n = l.length → Upto r l i → Upto r (gst r n i l) l.length
  | 0, i, l, _, h, hu => by
    intro a b hab hb
    exact hu a b hab (by omega)
  | n + 1, i, l, hD, h, hu => by
    unfold gst
    have p := gsk_perm (r := r) (k := i) (l := l) (by omega)
    rw [← p.length_eq]
    refine gst_sorted hO (fun x hx => hD x (p.mem_iff.mp hx)) (by rw [p.length_eq]; omega) ?_
    exact gsk_sorted hO hD (by omega) (by omega) (fun a b hab hb ha' hb' => hu a b hab (by omega)) (fun j h1 h2 => by omega)
def gsort (r : V3 → V3 → Bool) (l : List V3) : List V3 := gst r (l.length - 1) 1 l
theorem gsort_perm (l : List V3) : (gsort r l).Perm l := gst_perm (by omega)
theorem gsort_pw (hO : OrdV r D) {l : List V3} (hD : ∀ x ∈ l, D x) : (gsort r l).Pairwise (fun x y => r y x = false) := by
  rw [List.pairwise_iff_getElem]
  have hl : (gsort r l).length = l.length := (gsort_perm l).length_eq
  intro i j hi hj hij
  rw [← gt_get hi, ← gt_get hj]
  unfold gsort
  exact gst_sorted hO hD (by omega) (fun a b hab hb => by omega) i j hij (by omega)
end SORT
theorem sortE_g (c : Nat) (l : List V3) : sortE c l = gsort (bf c) l := srtN_g c _ _ l
theorem sortK_g (k : Nat) (l : List V3) : sortK k l = gsort (fun v u => aft k u v) l := srK_g k _ _ l
theorem sortE_perm (c : Nat) (l : List V3) : (sortE c l).Perm l := by rw [sortE_g]; exact gsort_perm l
theorem sortK_perm (c : Nat) (l : List V3) : (sortK c l).Perm l := by rw [sortK_g]; exact gsort_perm l
/-- fractions -/
theorem fr_trans {a b c p q s : Int} (hp : 0 < p) (hq : 0 < q) (hs : 0 < s) (h1 : a * q ≤ b * p) (h2 : b * s ≤ c * q) : a * s ≤ c * p := by
  have e1 := Int.mul_le_mul_of_nonneg_right h1 (show 0 ≤ s by omega)
  have e2 := Int.mul_le_mul_of_nonneg_right h2 (show 0 ≤ p by omega)
  have e3 : (a * s) * q ≤ (c * p) * q := by
    have : b * p * s = b * s * p := by rw [Int.mul_assoc, Int.mul_comm p s, ← Int.mul_assoc]
    have t1 : a * s * q = a * q * s := by rw [Int.mul_assoc, Int.mul_comm s q, ← Int.mul_assoc]
    have t2 : c * p * q = c * q * p := by rw [Int.mul_assoc, Int.mul_comm p q, ← Int.mul_assoc]
    omega
  exact Int.le_of_mul_le_mul_right e3 hq
theorem fr_lt {a b c p q s : Int} (hp : 0 < p) (hq : 0 < q) (hs : 0 < s) (h1 : a * q ≤ b * p) (h2 : b * s ≤ c * q) (h : a * s = c * p) : a * q = b * p ∧ b * s = c * q := by
  have g1 := fr_trans (a := c) (b := a) (c := b) hs hp hq (by omega) h1
  have g2 := fr_trans (a := b) (b := c) (c := a) hq hs hp h2 (by omega)
  omega
theorem wt_pos (c : Nat) (v : V3) : 0 < wtV c v := by unfold wtV; split <;> omega
/-- u may stand before v -/
def leE (c : Nat) (u v : V3) : Prop := (rayV c u = true ∧ rayV c v = false) ∨ (rayV c u = rayV c v ∧ (u.2.1 * wtV c v < v.2.1 * wtV c u ∨ (u.2.1 * wtV c v = v.2.1 * wtV c u ∧ (u.2.2 * wtV c v < v.2.2 * wtV c u ∨ (u.2.2 * wtV c v = v.2.2 * wtV c u ∧ u.1 ≤ v.1)))))
theorem bf_le (c : Nat) (u v : V3) : bf c v u = false ↔ leE c u v := by
  unfold bf leE
  cases h1 : rayV c v <;> cases h2 : rayV c u <;> simp
  all_goals ((repeat' split) <;> omega)
theorem leE_trans {c : Nat} {x y z : V3} (h1 : leE c x y) (h2 : leE c y z) : leE c x z := by
  unfold leE at *
  have px := wt_pos c x
  have py := wt_pos c y
  have pz := wt_pos c z
  rcases h1 with ⟨a1, a2⟩ | ⟨a1, a2⟩
  · rcases h2 with ⟨b1, b2⟩ | ⟨b1, b2⟩
    · rw [a2] at b1; cases b1
    · exact Or.inl ⟨a1, by rw [← b1]; exact a2⟩
  · rcases h2 with ⟨b1, b2⟩ | ⟨b1, b2⟩
    · exact Or.inl ⟨by rw [a1]; exact b1, b2⟩
    · refine Or.inr ⟨a1.trans b1, ?_⟩
      have f1 := fr_trans (a := x.2.1) (b := y.2.1) (c := z.2.1) px py pz (by omega) (by omega)
      by_cases e : x.2.1 * wtV c z = z.2.1 * wtV c x
      · obtain ⟨e1, e2⟩ := fr_lt (a := x.2.1) (b := y.2.1) (c := z.2.1) px py pz (by omega) (by omega) e
        have f2 := fr_trans (a := x.2.2) (b := y.2.2) (c := z.2.2) px py pz (by omega) (by omega)
        by_cases g : x.2.2 * wtV c z = z.2.2 * wtV c x
        · obtain ⟨g1, g2⟩ := fr_lt (a := x.2.2) (b := y.2.2) (c := z.2.2) px py pz (by omega) (by omega) g
          omega
        · omega
      · omega
theorem bf_ord (c : Nat) : OrdV (bf c) (fun _ => True) := by
  refine ⟨fun x y _ _ h => ?_, fun x y z _ _ _ h1 h2 => ?_⟩
  · refine (bf_le c x y).mpr ?_
    have h : ¬ leE c y x := fun q => by rw [(bf_le c y x).mpr q] at h; cases h
    unfold leE at *
    cases h1 : rayV c x <;> cases h2 : rayV c y <;> simp [h1, h2] at h ⊢ <;> omega
  · exact (bf_le c x z).mpr (leE_trans ((bf_le c x y).mp h1) ((bf_le c y z).mp h2))
theorem sortE_pw (c : Nat) (l : List V3) : (sortE c l).Pairwise (leE c) := by
  rw [sortE_g]
  exact (gsort_pw (bf_ord c) (fun _ _ => trivial)).imp fun h => (bf_le c _ _).mp h
/-- two that may both stand first are one -/
theorem leE_anti0 {x y : V3} (h1 : leE 0 x y) (h2 : leE 0 y x) : x = y := by
  unfold leE rayV wtV at *
  simp at h1 h2
  exact v_ext (by omega) (by omega) (by omega)
theorem leE_anti1 {x y : V3} (gx : gcd3 x = 1) (gy : gcd3 y = 1) (wx : 0 ≤ x.1) (wy : 0 ≤ y.1) (h1 : leE 1 x y) (h2 : leE 1 y x) : x = y := by
  unfold leE at *
  have rr : rayV 1 x = rayV 1 y := by
    rcases h1 with ⟨a, b⟩ | ⟨a, _⟩
    · rcases h2 with ⟨c, d⟩ | ⟨c, _⟩
      · rw [a] at d; cases d
      · exact c.symm
    · exact a
  have n1 : ¬ (rayV 1 x = true ∧ rayV 1 y = false) := fun q => by rw [rr, q.2] at q; cases q.1
  have n2 : ¬ (rayV 1 y = true ∧ rayV 1 x = false) := fun q => by rw [rr, q.1] at q; cases q.2
  have h1 := (h1.resolve_left n1).2
  have h2 := (h2.resolve_left n2).2
  have e1 : x.2.1 * wtV 1 y = y.2.1 * wtV 1 x := by omega
  have e2 : x.2.2 * wtV 1 y = y.2.2 * wtV 1 x := by omega
  by_cases c : x.1 = 0
  · have hy : y.1 = 0 := by
      have : rayV 1 x = true := by unfold rayV; simp [c]
      rw [rr] at this
      unfold rayV at this
      simpa using this
    unfold wtV at e1 e2
    simp [c, hy] at e1 e2
    exact v_ext (by omega) e1 e2
  · have hy : y.1 ≠ 0 := by
      have : rayV 1 x = false := by unfold rayV; simp [c]
      rw [rr] at this
      unfold rayV at this
      simpa using this
    have w1 : wtV 1 x = x.1 := by unfold wtV; rw [if_pos ⟨by omega, by omega⟩]
    have w2 : wtV 1 y = y.1 := by unfold wtV; rw [if_pos ⟨by omega, by omega⟩]
    rw [w1, w2] at e1 e2
    refine prim_eq gx gy (k := y.1) (m := x.1) (by omega) wx ?_
    refine v_ext ?_ ?_ ?_
    · exact Int.mul_comm _ _
    · show y.1 * x.2.1 = x.1 * y.2.1
      rw [Int.mul_comm, e1, Int.mul_comm]
    · show y.1 * x.2.2 = x.1 * y.2.2
      rw [Int.mul_comm, e2, Int.mul_comm]
/-- the reference's order -/
theorem aft_le {k : Nat} (hk : k ≠ 4) (x y : V3) : aft k x y = false ↔ leE 0 x y := by
  unfold aft leE rayV wtV
  rw [if_neg hk]
  simp
  (repeat' split) <;> omega
theorem aft4_le {x y : V3} (_hx : 0 < x.1) (_hy : 0 < y.1) : aft 4 x y = false ↔ (x.2.1 * y.1 < y.2.1 * x.1 ∨ (x.2.1 * y.1 = y.2.1 * x.1 ∧ x.2.2 * y.1 ≤ y.2.2 * x.1)) := by
  unfold aft
  rw [if_pos rfl]
  split
  · simp; omega
  · simp; omega
theorem aft_ord {k : Nat} (hk : k ≠ 4) : OrdV (fun v u => aft k u v) (fun _ => True) := by
  refine ⟨fun x y _ _ h => ?_, fun x y z _ _ _ h1 h2 => ?_⟩
  · refine (aft_le hk x y).mpr ?_
    have h : ¬ leE 0 y x := fun q => absurd ((aft_le hk y x).mpr q) (by rw [show aft k y x = true from h]; simp)
    unfold leE rayV wtV at *
    simp at h ⊢
    omega
  · exact (aft_le hk x z).mpr (leE_trans ((aft_le hk x y).mp h1) ((aft_le hk y z).mp h2))
theorem aft_ord4 : OrdV (fun v u => aft 4 u v) (fun v => 0 < v.1) := by
  refine ⟨fun x y hx hy h => ?_, fun x y z hx hy hz h1 h2 => ?_⟩
  · refine (aft4_le hx hy).mpr ?_
    have h : ¬ aft 4 y x = false := fun q => by rw [show aft 4 y x = true from h] at q; cases q
    rw [aft4_le hy hx] at h
    omega
  · have h1 := (aft4_le hx hy).mp h1
    have h2 := (aft4_le hy hz).mp h2
    refine (aft4_le hx hz).mpr ?_
    have f1 := fr_trans (a := x.2.1) (b := y.2.1) (c := z.2.1) hx hy hz (by omega) (by omega)
    by_cases e : x.2.1 * z.1 = z.2.1 * x.1
    · obtain ⟨e1, e2⟩ := fr_lt (a := x.2.1) (b := y.2.1) (c := z.2.1) hx hy hz (by omega) (by omega) e
      have f2 := fr_trans (a := x.2.2) (b := y.2.2) (c := z.2.2) hx hy hz (by omega) (by omega)
      omega
    · omega
theorem sort_K {l m : List V3} (h : l.Perm m) : sortE 0 l = sortK 1 m := by
  refine List.Perm.eq_of_pairwise (le := leE 0) (fun a b _ _ => leE_anti0) (sortE_pw 0 l) ?_ (((sortE_perm 0 l).trans h).trans (sortK_perm 1 m).symm)
  rw [sortK_g]
  exact (gsort_pw (aft_ord (by omega)) (fun _ _ => trivial)).imp fun h => (aft_le (by omega) _ _).mp h
theorem sort_G {l m n : List V3} (h : l.Perm (m ++ n)) (hp : ∀ v ∈ l, gcd3 v = 1) (hm : ∀ v ∈ m, v.1 = 0) (hn : ∀ v ∈ n, 0 < v.1) : sortE 1 l = sortK 3 m ++ sortK 4 n := by
  have w : ∀ v ∈ l, 0 ≤ v.1 := fun v hv => by
    rcases List.mem_append.mp (h.mem_iff.mp hv) with q | q
    · rw [hm v q]; omega
    · have := hn v q; omega
  have pp : (sortK 3 m ++ sortK 4 n).Perm l := ((sortK_perm 3 m).append (sortK_perm 4 n)).trans h.symm
  refine List.Perm.eq_of_pairwise (le := leE 1) (fun a b ha hb => leE_anti1 (hp a ((sortE_perm 1 l).mem_iff.mp ha)) (hp b (pp.mem_iff.mp hb)) (w a ((sortE_perm 1 l).mem_iff.mp ha)) (w b (pp.mem_iff.mp hb))) (sortE_pw 1 l) ?_ ((sortE_perm 1 l).trans pp.symm)
  rw [List.pairwise_append]
  refine ⟨?_, ?_, ?_⟩
  · have := gsort_pw (l := m) (aft_ord (k := 3) (by omega)) (fun _ _ => trivial)
    rw [sortK_g]
    refine List.Pairwise.imp_of_mem (fun {a b} ha hb q => ?_) this
    have q := (aft_le (by omega) _ _).mp q
    have ha := hm a ((gsort_perm m).mem_iff.mp ha)
    have hb := hm b ((gsort_perm m).mem_iff.mp hb)
    unfold leE rayV wtV at *
    simp [ha, hb] at q ⊢
    omega
  · have := gsort_pw (l := n) aft_ord4 hn
    rw [sortK_g]
    refine List.Pairwise.imp_of_mem (fun {a b} ha hb q => ?_) this
    have ma := (gsort_perm n).mem_iff.mp ha
    have mb := (gsort_perm n).mem_iff.mp hb
    have ha := hn a ma
    have hb := hn b mb
    have q := (aft4_le ha hb).mp q
    have w1 : wtV 1 a = a.1 := by unfold wtV; rw [if_pos ⟨by omega, by omega⟩]
    have w2 : wtV 1 b = b.1 := by unfold wtV; rw [if_pos ⟨by omega, by omega⟩]
    refine Or.inr ⟨?_, ?_⟩
    · unfold rayV
      rw [decide_eq_false (by omega), decide_eq_false (by omega)]
    rw [w1, w2]
    by_cases e : a.2.1 * b.1 = b.2.1 * a.1 ∧ a.2.2 * b.1 = b.2.2 * a.1
    · have : a = b := by
        refine prim_eq (hp a (h.mem_iff.mpr (List.mem_append_right _ ma))) (hp b (h.mem_iff.mpr (List.mem_append_right _ mb))) (k := b.1) (m := a.1) (by omega) (by omega) ?_
        refine v_ext (Int.mul_comm _ _) ?_ ?_
        · show b.1 * a.2.1 = a.1 * b.2.1
          rw [Int.mul_comm, e.1, Int.mul_comm]
        · show b.1 * a.2.2 = a.1 * b.2.2
          rw [Int.mul_comm, e.2, Int.mul_comm]
      rw [this]
      omega
    · omega
  · intro a ha b hb
    have ha := hm a ((sortK_perm 3 m).mem_iff.mp ha)
    have hb := hn b ((sortK_perm 4 n).mem_iff.mp hb)
    refine Or.inl ⟨?_, ?_⟩
    · unfold rayV; simp [ha]
    · unfold rayV; simp; omega
