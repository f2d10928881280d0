/-! THE REFERENCE: across one line -/
theorem pos_ne {a : Int} (h : 0 ≤ a) (h' : a ≠ 0) : 0 < a := by omega
def yV (u b : V3) : V3 := if u.2.1 = 0 then xp u b else neg3 (xp u b)
theorem yV_dot {u b c : V3} (hu : u.1 = 0) (hb : cmp3 b (pvt u) = 0) (hc : cmp3 c (pvt u) = 0) : dot (yV u b) c = cmp3 u (pvt u) * (b.1 * cmp3 c (3 - pvt u) - cmp3 b (3 - pvt u) * c.1) := by
  unfold yV
  by_cases e : u.2.1 = 0
  · have ep : pvt u = 2 := by unfold pvt; rw [if_pos e]
    rw [ep] at hb hc ⊢
    have hb : b.2.2 = 0 := hb
    have hc : c.2.2 = 0 := hc
    rw [if_pos e]
    show dot (xp u b) c = u.2.2 * (b.1 * c.2.1 - b.2.1 * c.1)
    unfold dot xp
    simp only []
    rw [hu, e, hb, hc]
    grind
  · have ep : pvt u = 1 := by unfold pvt; rw [if_neg e]
    rw [ep] at hb hc ⊢
    have hb : b.2.1 = 0 := hb
    have hc : c.2.1 = 0 := hc
    rw [if_neg e]
    show dot (neg3 (xp u b)) c = u.2.1 * (b.1 * c.2.2 - b.2.2 * c.1)
    unfold dot neg3 xp
    simp only []
    rw [hu, hb, hc]
    grind
theorem yV_u (u b : V3) : dot (yV u b) u = 0 := by
  unfold yV
  split
  · rw [dot_comm]; exact dot_xp_l u b
  · rw [neg_dot, dot_comm, dot_xp_l]; rfl
theorem par2 {p : Nat} (hp : p = 1 ∨ p = 2) {a b : V3} (ha : cmp3 a p = 0) (hb : cmp3 b p = 0) (h : a.1 * cmp3 b (3 - p) = cmp3 a (3 - p) * b.1) : xp a b = O3 := by
  rcases hp with rfl | rfl
  · have ha : a.2.1 = 0 := ha
    have hb : b.2.1 = 0 := hb
    have h : a.1 * b.2.2 = a.2.2 * b.1 := h
    unfold xp
    refine v_ext ?_ ?_ ?_
    · show a.2.1 * b.2.2 - a.2.2 * b.2.1 = 0; rw [ha, hb]; simp
    · show a.2.2 * b.1 - a.1 * b.2.2 = 0; omega
    · show a.1 * b.2.1 - a.2.1 * b.1 = 0; rw [ha, hb]; simp
  · have ha : a.2.2 = 0 := ha
    have hb : b.2.2 = 0 := hb
    have h : a.1 * b.2.1 = a.2.1 * b.1 := h
    unfold xp
    refine v_ext ?_ ?_ ?_
    · show a.2.1 * b.2.2 - a.2.2 * b.2.1 = 0; rw [ha, hb]; simp
    · show a.2.2 * b.1 - a.1 * b.2.2 = 0; rw [ha, hb]; simp
    · show a.1 * b.2.1 - a.2.1 * b.1 = 0; omega
theorem zero2 {p : Nat} (hp : p = 1 ∨ p = 2) {a : V3} (h0 : a.1 = 0) (h1 : cmp3 a p = 0) (h2 : cmp3 a (3 - p) = 0) : a = O3 := by
  rcases hp with rfl | rfl
  · exact v_ext h0 h1 h2
  · exact v_ext h0 h2 h1
/-- what the scan across has found -/
def AcI (Gc : List V3) (z : Nat) (M : Nat → List V3) (i : Nat) (s : AcS) : Prop :=
  (∀ j, j < i → (gt Gc j).1 ≠ 0 → ∃ q, s.1 = some q ∧ q < i ∧ (gt Gc q).1 ≠ 0 ∧ cmp3 (gt Gc q) z * (gt Gc j).1 ≤ cmp3 (gt Gc j) z * (gt Gc q).1) ∧
  (∀ q, s.1 = some q → q < i ∧ (gt Gc q).1 ≠ 0) ∧
  (∀ j, j < i → (gt Gc j).1 ≠ 0 → ∃ q, s.2.1 = some q ∧ q < i ∧ (gt Gc q).1 ≠ 0 ∧ cmp3 (gt Gc j) z * (gt Gc q).1 ≤ cmp3 (gt Gc q) z * (gt Gc j).1) ∧
  (∀ q, s.2.1 = some q → q < i ∧ (gt Gc q).1 ≠ 0) ∧
  (s.2.2.1 = true ↔ ∃ j, j < i ∧ (gt Gc j).1 = 0 ∧ 0 < cmp3 (gt Gc j) z) ∧
  (s.2.2.2.1 = true ↔ ∃ j, j < i ∧ (gt Gc j).1 = 0 ∧ cmp3 (gt Gc j) z < 0) ∧
  (∀ k, k ≠ 3 → s.2.2.2.2 k = M k) ∧ ((M 3).Nodup → (s.2.2.2.2 3).Nodup) ∧
  ∀ v, v ∈ s.2.2.2.2 3 ↔ v ∈ M 3 ∨ ∃ j, j < i ∧ (gt Gc j).1 = 0 ∧ cmp3 (gt Gc j) z ≠ 0 ∧ v = prm (gt Gc j)
theorem ac_lw {Gc : List V3} {z i : Nat} (hw : ∀ j, 0 ≤ (gt Gc j).1) {o : Option Nat} (hi : (gt Gc i).1 ≠ 0)
    (h1 : ∀ j, j < i → (gt Gc j).1 ≠ 0 → ∃ q, o = some q ∧ q < i ∧ (gt Gc q).1 ≠ 0 ∧ cmp3 (gt Gc q) z * (gt Gc j).1 ≤ cmp3 (gt Gc j) z * (gt Gc q).1) (h2 : ∀ q, o = some q → q < i ∧ (gt Gc q).1 ≠ 0) :
    (∀ j, j < i + 1 → (gt Gc j).1 ≠ 0 → ∃ q, lwA Gc z i o = some q ∧ q < i + 1 ∧ (gt Gc q).1 ≠ 0 ∧ cmp3 (gt Gc q) z * (gt Gc j).1 ≤ cmp3 (gt Gc j) z * (gt Gc q).1) ∧ ∀ q, lwA Gc z i o = some q → q < i + 1 ∧ (gt Gc q).1 ≠ 0 := by
  cases o with
  | none =>
    refine ⟨fun j hj h0 => ?_, fun q hq => ?_⟩
    · by_cases c : j = i
      · subst c; exact ⟨j, rfl, by omega, hi, by omega⟩
      · obtain ⟨q, e, _⟩ := h1 j (by omega) h0
        cases e
    · have : some i = some q := hq
      cases this
      exact ⟨by omega, hi⟩
  | some r =>
    obtain ⟨r1, r2⟩ := h2 r rfl
    have wr := hw r
    have wi := hw i
    by_cases c : cmp3 (gt Gc i) z * (gt Gc r).1 < cmp3 (gt Gc r) z * (gt Gc i).1
    · rw [show lwA Gc z i (some r) = some i from if_pos c]
      refine ⟨fun j hj h0 => ⟨i, rfl, by omega, hi, ?_⟩, fun q hq => by cases hq; exact ⟨by omega, hi⟩⟩
      by_cases d : j = i
      · subst d; omega
      · obtain ⟨q, e, _, _, hq⟩ := h1 j (by omega) h0
        cases e
        have wj := hw j
        exact fr_trans (p := (gt Gc i).1) (q := (gt Gc r).1) (s := (gt Gc j).1) (b := cmp3 (gt Gc r) z) (by omega) (by omega) (by omega) (by omega) hq
    · rw [show lwA Gc z i (some r) = some r from if_neg c]
      refine ⟨fun j hj h0 => ⟨r, rfl, by omega, r2, ?_⟩, fun q hq => by cases hq; exact ⟨by omega, r2⟩⟩
      by_cases d : j = i
      · subst d; omega
      · obtain ⟨q, e, _, _, hq⟩ := h1 j (by omega) h0
        cases e
        exact hq
theorem ac_hg {Gc : List V3} {z i : Nat} (hw : ∀ j, 0 ≤ (gt Gc j).1) {o : Option Nat} (hi : (gt Gc i).1 ≠ 0)
    (h1 : ∀ j, j < i → (gt Gc j).1 ≠ 0 → ∃ q, o = some q ∧ q < i ∧ (gt Gc q).1 ≠ 0 ∧ cmp3 (gt Gc j) z * (gt Gc q).1 ≤ cmp3 (gt Gc q) z * (gt Gc j).1) (h2 : ∀ q, o = some q → q < i ∧ (gt Gc q).1 ≠ 0) :
    (∀ j, j < i + 1 → (gt Gc j).1 ≠ 0 → ∃ q, hgA Gc z i o = some q ∧ q < i + 1 ∧ (gt Gc q).1 ≠ 0 ∧ cmp3 (gt Gc j) z * (gt Gc q).1 ≤ cmp3 (gt Gc q) z * (gt Gc j).1) ∧ ∀ q, hgA Gc z i o = some q → q < i + 1 ∧ (gt Gc q).1 ≠ 0 := by
  cases o with
  | none =>
    refine ⟨fun j hj h0 => ?_, fun q hq => ?_⟩
    · by_cases c : j = i
      · subst c; exact ⟨j, rfl, by omega, hi, by omega⟩
      · obtain ⟨q, e, _⟩ := h1 j (by omega) h0
        cases e
    · have : some i = some q := hq
      cases this
      exact ⟨by omega, hi⟩
  | some r =>
    obtain ⟨r1, r2⟩ := h2 r rfl
    have wr := hw r
    have wi := hw i
    by_cases c : cmp3 (gt Gc r) z * (gt Gc i).1 < cmp3 (gt Gc i) z * (gt Gc r).1
    · rw [show hgA Gc z i (some r) = some i from if_pos c]
      refine ⟨fun j hj h0 => ⟨i, rfl, by omega, hi, ?_⟩, fun q hq => by cases hq; exact ⟨by omega, hi⟩⟩
      by_cases d : j = i
      · subst d; omega
      · obtain ⟨q, e, _, _, hq⟩ := h1 j (by omega) h0
        cases e
        have wj := hw j
        exact fr_trans (p := (gt Gc j).1) (q := (gt Gc r).1) (s := (gt Gc i).1) (b := cmp3 (gt Gc r) z) (by omega) (by omega) (by omega) hq (by omega)
    · rw [show hgA Gc z i (some r) = some r from if_neg c]
      refine ⟨fun j hj h0 => ⟨r, rfl, by omega, r2, ?_⟩, fun q hq => by cases hq; exact ⟨by omega, r2⟩⟩
      by_cases d : j = i
      · subst d; omega
      · obtain ⟨q, e, _, _, hq⟩ := h1 j (by omega) h0
        cases e
        exact hq
theorem ex_lt1 {P : Nat → Prop} {i : Nat} : (∃ j, j < i + 1 ∧ P j) ↔ (∃ j, j < i ∧ P j) ∨ P i := by
  constructor
  · rintro ⟨j, h1, h2⟩
    by_cases c : j = i
    · subst c; exact Or.inr h2
    · exact Or.inl ⟨j, by omega, h2⟩
  · rintro (⟨j, h1, h2⟩ | h)
    · exact ⟨j, by omega, h2⟩
    · exact ⟨i, by omega, h⟩
theorem acS_I {Gc : List V3} {z i : Nat} {M : Nat → List V3} {s : AcS} (hw : ∀ j, 0 ≤ (gt Gc j).1) (h : AcI Gc z M i s) : AcI Gc z M (i + 1) (acS Gc z i s) := by
  obtain ⟨a1, a2, a3, a4, a5, a6, a7, a8, a9⟩ := h
  unfold acS
  by_cases c : (gt Gc i).1 = 0
  · rw [if_pos c]
    refine ⟨fun j hj h0 => ?_, fun q hq => ⟨by have := (a2 q hq).1; omega, (a2 q hq).2⟩, fun j hj h0 => ?_, fun q hq => ⟨by have := (a4 q hq).1; omega, (a4 q hq).2⟩, ?_, ?_, fun k hk => ?_, fun hn => ?_, fun v => ?_⟩
    · have : j ≠ i := fun q => by subst q; exact h0 c
      obtain ⟨q, h1, h2, h3⟩ := a1 j (by omega) h0
      exact ⟨q, h1, by omega, h3⟩
    · have : j ≠ i := fun q => by subst q; exact h0 c
      obtain ⟨q, h1, h2, h3⟩ := a3 j (by omega) h0
      exact ⟨q, h1, by omega, h3⟩
    · show (s.2.2.1 || decide (0 < cmp3 (gt Gc i) z)) = true ↔ _
      rw [Bool.or_eq_true, a5, ex_lt1, decide_eq_true_iff]
      exact or_congr Iff.rfl ⟨fun q => ⟨c, q⟩, fun q => q.2⟩
    · show (s.2.2.2.1 || decide (cmp3 (gt Gc i) z < 0)) = true ↔ _
      rw [Bool.or_eq_true, a6, ex_lt1, decide_eq_true_iff]
      exact or_congr Iff.rfl ⟨fun q => ⟨c, q⟩, fun q => q.2⟩
    · show (if cmp3 (gt Gc i) z = 0 then s.2.2.2.2 else mkM s.2.2.2.2 3 (gt Gc i)) k = M k
      split
      · exact a7 k hk
      · rw [mkM_o hk]; exact a7 k hk
    · show ((if cmp3 (gt Gc i) z = 0 then s.2.2.2.2 else mkM s.2.2.2.2 3 (gt Gc i)) 3).Nodup
      split
      · exact a8 hn
      · exact mkM_nd (a8 hn)
    · show v ∈ (if cmp3 (gt Gc i) z = 0 then s.2.2.2.2 else mkM s.2.2.2.2 3 (gt Gc i)) 3 ↔ _
      rw [ex_lt1]
      split
      · rename_i d
        rw [a9]
        exact or_congr Iff.rfl ⟨Or.inl, fun q => q.elim id fun q => absurd d q.2.1⟩
      · rename_i d
        rw [mkM_k, kp_mem_z, a9, or_assoc]
        exact or_congr Iff.rfl (or_congr Iff.rfl ⟨fun q => ⟨c, d, q⟩, fun q => q.2.2⟩)
  · rw [if_neg c]
    obtain ⟨b1, b2⟩ := ac_lw hw c a1 a2
    obtain ⟨b3, b4⟩ := ac_hg hw c a3 a4
    refine ⟨b1, b2, b3, b4, ?_, ?_, a7, a8, fun v => ?_⟩
    · show s.2.2.1 = true ↔ _
      rw [a5, ex_lt1]
      exact ⟨Or.inl, fun q => q.elim id fun q => absurd q.1 c⟩
    · show s.2.2.2.1 = true ↔ _
      rw [a6, ex_lt1]
      exact ⟨Or.inl, fun q => q.elim id fun q => absurd q.1 c⟩
    · show v ∈ s.2.2.2.2 3 ↔ _
      rw [a9, ex_lt1]
      exact or_congr Iff.rfl ⟨Or.inl, fun q => q.elim id fun q => absurd q.1 c⟩
theorem ac2_I {Gc : List V3} {z : Nat} {M : Nat → List V3} (hw : ∀ j, 0 ≤ (gt Gc j).1) : ∀ {n i : Nat} {s : AcS}, AcI Gc z M i s → AcI Gc z M (i + n) (ac2 Gc z n i s)
  | 0, i, s, h => h
  | n + 1, i, s, h => by
    unfold ac2
    have := ac2_I hw (n := n) (acS_I hw h)
    rw [show i + (n + 1) = i + 1 + n by omega]
    exact this
theorem AcI.start (Gc : List V3) (z : Nat) (M : Nat → List V3) : AcI Gc z M 0 (none, none, false, false, M) := by
  exact ⟨fun j h => absurd h (Nat.not_lt_zero _), fun q h => (nomatch h), fun j h => absurd h (Nat.not_lt_zero _), fun q h => (nomatch h), ⟨fun h => (nomatch h), fun ⟨j, h, _⟩ => absurd h (Nat.not_lt_zero _)⟩, ⟨fun h => (nomatch h), fun ⟨j, h, _⟩ => absurd h (Nat.not_lt_zero _)⟩, fun _ _ => rfl, id, fun v => ⟨Or.inl, fun q => q.elim id fun ⟨j, h, _⟩ => absurd h (Nat.not_lt_zero _)⟩⟩
section ACR
variable {C G : List V3}
theorem gt_O {l : List V3} {i : Nat} (h : ¬ i < l.length) : gt l i = O3 := by
  unfold gt
  rw [List.getD_eq_getElem?_getD, List.getElem?_eq_none (by omega)]; rfl
theorem Pr.acr (h : Pr C G) {u : V3} (hS : Canon (Ln (SC C)) [u]) {M : Nat → List V3} (h3 : M 3 = []) (h4 : M 4 = []) :
    (∀ j, j < 3 → acrF M u G j = M j) ∧ (acrF M u G 3 ++ acrF M u G 4).Nodup ∧ (∀ v ∈ acrF M u G 3, v.1 = 0) ∧ (∀ v ∈ acrF M u G 4, 0 < v.1) ∧ (∀ v, v ∈ acrF M u G 3 ++ acrF M u G 4 ↔ Sem (SC C) (TG G) [u] v) ∧ (acR M u G).1 ≠ none ∧ (acR M u G).2.1 ≠ none := by
  have hSc := hS
  obtain ⟨c1, c2, c3⟩ := hSc
  have u0 := prim_ne c1
  have uL := canon_mem hS u (by simp)
  have u1 : u.1 = 0 := by have := h.du.ln uL h.e0; rw [dot_e0] at this; exact this
  have hp := pvt_lt_z u
  have upos := pvt_pos c2
  have uT : ∀ y, TG G y → dot y u = 0 := fun y hy => h.du.ln uL hy
  -- what the cleared generators are
  have F : ∀ g ∈ G, ((cleV u (prm g) = O3 ∧ xp u g = O3) ∨ (gcd3 (cleV u (prm g)) = 1 ∧ SC C (cleV u (prm g)))) ∧ cmp3 (cleV u (prm g)) (pvt u) = 0 ∧ ∃ a b : Int, 0 < a ∧ 0 < b ∧ ∀ y, dot y u = 0 → a * dot y (cleV u (prm g)) = b * dot y g := fun g hg => by
    have g0 := h.2.1 g hg
    obtain ⟨k, hk, e, e1⟩ := prm_spec g0
    by_cases c : xp u (prm g) = O3
    · have z := cle_O u0 c
      have hxg : xp u g = O3 := by rw [← e, xp_sm', c, sm_O]
      rw [z]
      refine ⟨Or.inl ⟨rfl, hxg⟩, cmp_O _, 1, 1, by omega, by omega, fun y hy => ?_⟩
      rw [dot_0, dot_comm y g, par_dot u0 hxg (by rw [dot_comm]; exact hy)]
    · obtain ⟨g', α, β, hg', hα, e2, h2, h3⟩ := cle_spec c2 c
      have key : ∀ y, dot y u = 0 → (k * g') * dot y (cleV u (prm g)) = α * dot y g := fun y hy => by
        have q := congrArg (dot y) e2
        rw [dot_sm, dot_lin, hy, Int.mul_zero, Int.add_zero] at q
        have q2 := congrArg (dot y) e
        rw [dot_sm] at q2
        rw [Int.mul_assoc, q, ← q2]
        rw [← Int.mul_assoc, ← Int.mul_assoc, Int.mul_comm k α]
      refine ⟨Or.inr ⟨h2, fun a ha => ?_⟩, h3, k * g', α, Int.mul_pos hk hg', hα, key⟩
      have t := key a (uT a (h.cT ha))
      have := Int.mul_nonneg (show 0 ≤ α by omega) (h.2.2.1 g hg a ha)
      rw [← t] at this
      exact nn_of_pos (Int.mul_pos hk hg') this
  generalize hGc : G.map (fun g => cleV u (prm g)) = Gc
  have mem : ∀ c, c ∈ Gc ↔ ∃ g, g ∈ G ∧ cleV u (prm g) = c := fun c => by rw [← hGc, List.mem_map]
  have len : Gc.length = G.length := by rw [← hGc, List.length_map]
  have cp : ∀ c ∈ Gc, cmp3 c (pvt u) = 0 := fun c hc => by
    obtain ⟨g, hg, rfl⟩ := (mem c).mp hc
    exact (F g hg).2.1
  have cS : ∀ c ∈ Gc, c = O3 ∨ (gcd3 c = 1 ∧ SC C c) := fun c hc => by
    obtain ⟨g, hg, rfl⟩ := (mem c).mp hc
    exact (F g hg).1.imp (fun q => q.1) id
  have cw : ∀ c ∈ Gc, 0 ≤ c.1 := fun c hc => by
    rcases cS c hc with q | q
    · rw [q]; exact Int.le_refl _
    · exact h.w q.2
  have hw : ∀ j, 0 ≤ (gt Gc j).1 := fun j => by
    by_cases c : j < Gc.length
    · exact cw _ (gt_mem c)
    · rw [gt_O c]; exact Int.le_refl _
  have toT : ∀ y, dot y u = 0 → (∀ c ∈ Gc, 0 ≤ dot y c) → TG G y := fun y hy hc g hg => by
    obtain ⟨_, _, a, b, ha, hb, k⟩ := F g hg
    have t := k y hy
    have := Int.mul_nonneg (show 0 ≤ a by omega) (hc _ ((mem _).mpr ⟨g, hg, rfl⟩))
    rw [t] at this
    rw [dot_comm]
    exact nn_of_pos hb this
  have ofT : ∀ y, TG G y → ∀ c ∈ Gc, 0 ≤ dot y c := fun y hy c hc => by
    rcases cS c hc with q | q
    · rw [q, dot_0]; omega
    · exact h.du.nn q.2 hy
  have pt : ∃ c, c ∈ Gc ∧ 0 < c.1 := by
    obtain ⟨p, hp, p0⟩ := h.2.2.2.2
    refine ⟨_, (mem _).mpr ⟨p, hp, rfl⟩, ?_⟩
    obtain ⟨_, _, a, b, ha, hb, k⟩ := F p hp
    have t := k (1, 0, 0) (by rw [dot_e0]; exact u1)
    rw [dot_e0, dot_e0] at t
    exact pos_of ha (by rw [t]; exact Int.mul_pos hb p0)
  have hI := ac2_I hw (n := G.length) (AcI.start Gc (3 - pvt u) M)
  have eR : acR M u G = ac2 Gc (3 - pvt u) G.length 0 (none, none, false, false, M) := by unfold acR; rw [hGc]
  have eF : acrF M u G = acE Gc (acR M u G) := by unfold acrF; rw [hGc]
  rw [← eR, Nat.zero_add, ← len] at hI
  rw [eF]
  generalize acR M u G = s at hI
  obtain ⟨a1, a2, a3, a4, a5, a6, a7, a8, a9⟩ := hI
  obtain ⟨c0, hc0, hc0p⟩ := pt
  obtain ⟨j0, hj0, ej0⟩ := mem_gt hc0
  obtain ⟨lo, elo, l1, l2, _⟩ := a1 j0 hj0 (by rw [ej0]; omega)
  obtain ⟨hi, ehi, i1, i2, _⟩ := a3 j0 hj0 (by rw [ej0]; omega)
  have lom := gt_mem l1
  have him := gt_mem i1
  have low : ∀ c ∈ Gc, c.1 ≠ 0 → cmp3 (gt Gc lo) (3 - pvt u) * c.1 ≤ cmp3 c (3 - pvt u) * (gt Gc lo).1 := fun c hc c0 => by
    obtain ⟨j, hj, rfl⟩ := mem_gt hc
    obtain ⟨q, e, _, _, hq⟩ := a1 j hj c0
    rw [elo] at e; cases e
    exact hq
  have high : ∀ c ∈ Gc, c.1 ≠ 0 → cmp3 c (3 - pvt u) * (gt Gc hi).1 ≤ cmp3 (gt Gc hi) (3 - pvt u) * c.1 := fun c hc c0 => by
    obtain ⟨j, hj, rfl⟩ := mem_gt hc
    obtain ⟨q, e, _, _, hq⟩ := a3 j hj c0
    rw [ehi] at e; cases e
    exact hq
  have up : s.2.2.1 = true ↔ ∃ c, c ∈ Gc ∧ c.1 = 0 ∧ 0 < cmp3 c (3 - pvt u) := by
    rw [a5]
    exact ⟨fun ⟨j, h1, h2⟩ => ⟨_, gt_mem h1, h2⟩, fun ⟨c, h1, h2⟩ => by obtain ⟨j, hj, rfl⟩ := mem_gt h1; exact ⟨j, hj, h2⟩⟩
  have down : s.2.2.2.1 = true ↔ ∃ c, c ∈ Gc ∧ c.1 = 0 ∧ cmp3 c (3 - pvt u) < 0 := by
    rw [a6]
    exact ⟨fun ⟨j, h1, h2⟩ => ⟨_, gt_mem h1, h2⟩, fun ⟨c, h1, h2⟩ => by obtain ⟨j, hj, rfl⟩ := mem_gt h1; exact ⟨j, hj, h2⟩⟩
  have prim : ∀ c ∈ Gc, (c.1 ≠ 0 ∨ cmp3 c (3 - pvt u) ≠ 0) → gcd3 c = 1 ∧ SC C c := fun c hc hn => by
    rcases cS c hc with q | q
    · rw [q, cmp_O] at hn
      exact absurd hn (by simp)
    · exact q
  have rays : ∀ v, v ∈ s.2.2.2.2 3 ↔ v ∈ Gc ∧ v.1 = 0 ∧ cmp3 v (3 - pvt u) ≠ 0 := fun v => by
    rw [a9, h3]
    constructor
    · rintro (q | ⟨j, h1, h2, h5, rfl⟩)
      · exact absurd q List.not_mem_nil
      · rw [prm_id (prim _ (gt_mem h1) (Or.inr h5)).1]
        exact ⟨gt_mem h1, h2, h5⟩
    · rintro ⟨q1, q2, q3⟩
      obtain ⟨j, hj, rfl⟩ := mem_gt q1
      exact Or.inr ⟨j, hj, q2, q3, (prm_id (prim _ q1 (Or.inr q3)).1).symm⟩
  have lo1 := prim _ lom (Or.inl l2)
  have hi1 := prim _ him (Or.inl i2)
  have loW : 0 < (gt Gc lo).1 := pos_ne (hw lo) l2
  have hiW : 0 < (gt Gc hi).1 := pos_ne (hw hi) i2
  have E3 : ∀ k, k ≠ 4 → acE Gc s k = s.2.2.2.2 k := fun k hk => by
    unfold acE acM
    split
    · split
      · rfl
      · exact mkM_o hk
    · rw [mkM_o hk]
      split
      · rfl
      · exact mkM_o hk
  have E4 : ∀ v, v ∈ acE Gc s 4 ↔ (s.2.2.2.1 = false ∧ v = gt Gc lo) ∨ (s.2.2.1 = false ∧ v = gt Gc hi) := fun v => by
    have b4 : s.2.2.2.2 4 = [] := by rw [a7 4 (by omega), h4]
    unfold acE acM
    rw [elo, ehi]
    simp only [Option.getD_some]
    rw [prm_id lo1.1, prm_id hi1.1]
    cases s.2.2.1 <;> cases s.2.2.2.1 <;> simp [mkM_k, kp_mem_z, b4, prm_id lo1.1, prm_id hi1.1]
  have E4n : (acE Gc s 4).Nodup := by
    have b4 : (s.2.2.2.2 4).Nodup := by rw [a7 4 (by omega), h4]; exact List.nodup_nil
    unfold acE acM
    split
    · split
      · exact b4
      · exact mkM_nd b4
    · refine mkM_nd ?_
      split
      · exact b4
      · exact mkM_nd b4
  have w3 : ∀ v ∈ acE Gc s 3, v.1 = 0 := fun v hv => by
    rw [E3 3 (by omega)] at hv
    exact ((rays v).mp hv).2.1
  have w4 : ∀ v ∈ acE Gc s 4, 0 < v.1 := fun v hv => by
    rcases (E4 v).mp hv with q | q
    · rw [q.2]; exact loW
    · rw [q.2]; exact hiW
  -- the two sides
  have yL : s.2.2.2.1 = false → TG G (yV u (gt Gc lo)) := fun hd => toT _ (yV_u _ _) fun c hc => by
    rw [yV_dot u1 (cp _ lom) (cp c hc)]
    refine Int.mul_nonneg (by omega) ?_
    by_cases q : c.1 = 0
    · have : ¬ cmp3 c (3 - pvt u) < 0 := fun q' => by rw [down.mpr ⟨c, hc, q, q'⟩] at hd; cases hd
      rw [q, Int.mul_zero]
      have := Int.mul_nonneg (show 0 ≤ (gt Gc lo).1 by omega) (show 0 ≤ cmp3 c (3 - pvt u) by omega)
      omega
    · have := low c hc q
      rw [Int.mul_comm (gt Gc lo).1]
      omega
  have yH : s.2.2.1 = false → TG G (neg3 (yV u (gt Gc hi))) := fun hd => toT _ (by rw [neg_dot, yV_u]; rfl) fun c hc => by
    rw [neg_dot, yV_dot u1 (cp _ him) (cp c hc), ← Int.mul_neg]
    refine Int.mul_nonneg (by omega) ?_
    by_cases q : c.1 = 0
    · have : ¬ 0 < cmp3 c (3 - pvt u) := fun q' => by rw [up.mpr ⟨c, hc, q, q'⟩] at hd; cases hd
      rw [q, Int.mul_zero]
      have := Int.mul_nonneg (show 0 ≤ (gt Gc hi).1 by omega) (show 0 ≤ -cmp3 c (3 - pvt u) by omega)
      rw [Int.mul_neg] at this
      omega
    · have := high c hc q
      rw [Int.mul_comm (gt Gc hi).1]
      omega
  have ny : ∀ b, 0 < b.1 → yV u b ≠ O3 := fun b hb q => by
    have hx : xp u b = O3 := by
      unfold yV at q
      split at q
      · exact q
      · rw [← neg_neg3 (xp u b), q]; rfl
    have e := par_dot (h := (1, 0, 0)) u0 hx (by rw [dot_comm, dot_e0]; exact u1)
    rw [dot_comm, dot_e0] at e
    omega
  have self : ∀ b, cmp3 b (pvt u) = 0 → dot (yV u b) b = 0 := fun b hb => by
    rw [yV_dot u1 hb hb, Int.mul_comm b.1, Int.sub_self, Int.mul_zero]
  refine ⟨fun j hj => by rw [E3 j (by omega)]; exact a7 j (by omega), ?_, w3, w4, fun v => ?_, by rw [elo]; simp, by rw [ehi]; simp⟩
  · rw [List.nodup_append]
    refine ⟨by rw [E3 3 (by omega)]; exact a8 (by rw [h3]; exact List.nodup_nil), E4n, fun a ha b hb q => ?_⟩
    have := w3 a ha
    have := w4 b hb
    rw [q] at *
    omega
  · rw [List.mem_append, E3 3 (by omega), rays v, E4 v]
    constructor
    · rintro (⟨q1, q2, q3⟩ | ⟨hd, rfl⟩ | ⟨hd, rfl⟩)
      · obtain ⟨p1, p2⟩ := prim v q1 (Or.inr q3)
        exact ⟨p1, p2, pz_cmp.mpr (cp v q1), (1, 0, 0), ⟨h.e0, by rw [dot_e0]; exact q2⟩, by simp⟩
      · exact ⟨lo1.1, lo1.2, pz_cmp.mpr (cp _ lom), _, ⟨yL hd, self _ (cp _ lom)⟩, ny _ loW⟩
      · exact ⟨hi1.1, hi1.2, pz_cmp.mpr (cp _ him), _, ⟨yH hd, by rw [neg_dot, self _ (cp _ him)]; rfl⟩, fun q => ny _ hiW (by rw [← neg_neg3 (yV u (gt Gc hi)), q]; rfl)⟩
    · rintro ⟨v1, v2, v3, y, ⟨hy, hyv⟩, y0⟩
      have v3 := pz_cmp.mp v3
      have yu := uT y hy
      -- v on the far side of low and high
      have vL : s.2.2.2.1 = false → 0 ≤ (gt Gc lo).1 * cmp3 v (3 - pvt u) - cmp3 (gt Gc lo) (3 - pvt u) * v.1 := fun hd => by
        have := h.du.nn v2 (yL hd)
        rw [yV_dot u1 (cp _ lom) v3] at this
        exact nn_of_pos upos this
      have vH : s.2.2.1 = false → (gt Gc hi).1 * cmp3 v (3 - pvt u) - cmp3 (gt Gc hi) (3 - pvt u) * v.1 ≤ 0 := fun hd => by
        have := h.du.nn v2 (yH hd)
        rw [neg_dot, yV_dot u1 (cp _ him) v3, ← Int.mul_neg] at this
        have := nn_of_pos upos this
        omega
      by_cases w0 : v.1 = 0
      · refine Or.inl ?_
        have hz : cmp3 v (3 - pvt u) ≠ 0 := fun q => prim_ne v1 (zero2 hp w0 v3 q)
        have eqv : ∀ c ∈ Gc, c.1 = 0 → 0 < cmp3 c (3 - pvt u) * cmp3 v (3 - pvt u) → v = c := fun c hc c0 hpos => by
          have hx : xp c v = O3 := par2 hp (cp c hc) v3 (by rw [c0, w0]; simp)
          have cn : cmp3 c (3 - pvt u) ≠ 0 := fun q => by rw [q, Int.zero_mul] at hpos; omega
          refine (par_prim' (a := v) (prim c hc (Or.inr cn)).1 v1 hx ?_ (by have := dd_ne (prim_ne v1); omega)).symm
          have : dot v c = cmp3 c (3 - pvt u) * cmp3 v (3 - pvt u) := by
            have k1 := cp c hc
            generalize pvt u = p at hp k1 v3 ⊢
            rcases hp with rfl | rfl
            · have k1 : c.2.1 = 0 := k1
              show v.1 * c.1 + v.2.1 * c.2.1 + v.2.2 * c.2.2 = c.2.2 * v.2.2
              rw [c0, k1, Int.mul_comm c.2.2]; omega
            · have k1 : c.2.2 = 0 := k1
              show v.1 * c.1 + v.2.1 * c.2.1 + v.2.2 * c.2.2 = c.2.1 * v.2.1
              rw [c0, k1, Int.mul_comm c.2.1]; omega
          rw [this]; exact hpos
        by_cases hs : 0 < cmp3 v (3 - pvt u)
        · have hu : s.2.2.1 = true := by
            cases q : s.2.2.1
            · have := vH q
              rw [w0, Int.mul_zero] at this
              have := Int.mul_pos hiW hs
              omega
            · rfl
          obtain ⟨c, hc, c0, cz⟩ := up.mp hu
          have e := eqv c hc c0 (Int.mul_pos cz hs)
          exact ⟨by rw [e]; exact hc, w0, hz⟩
        · have hs : cmp3 v (3 - pvt u) < 0 := by omega
          have hu : s.2.2.2.1 = true := by
            cases q : s.2.2.2.1
            · have := vL q
              rw [w0, Int.mul_zero] at this
              have := Int.mul_neg_of_pos_of_neg loW hs
              omega
            · rfl
          obtain ⟨c, hc, c0, cz⟩ := down.mp hu
          have e := eqv c hc c0 (Int.mul_pos_of_neg_of_neg cz hs)
          exact ⟨by rw [e]; exact hc, w0, hz⟩
      · refine Or.inr ?_
        have w : 0 < v.1 := by have := h.w v2; omega
        -- y is along v's own row
        have hpar : xp (yV u v) y = O3 := by
          refine perp2 (u := u) (v := v) (yV_u u v) (self v v3) yu hyv fun q => ?_
          have e := par_dot (h := (1, 0, 0)) u0 q (by rw [dot_comm, dot_e0]; exact u1)
          rw [dot_comm, dot_e0] at e
          omega
        have e := par_sm hpar
        have nn := dd_ne (ny v w)
        have key : ∀ c ∈ Gc, 0 ≤ dot (yV u v) y * (v.1 * cmp3 c (3 - pvt u) - cmp3 v (3 - pvt u) * c.1) := fun c hc => by
          have t := congrArg (dot c) e
          rw [dot_sm, dot_sm, dot_comm c y, dot_comm c (yV u v), yV_dot u1 v3 (cp c hc)] at t
          have := Int.mul_nonneg (show 0 ≤ dot (yV u v) (yV u v) by omega) (ofT y hy c hc)
          rw [t, ← Int.mul_assoc, Int.mul_comm _ (cmp3 u (pvt u)), Int.mul_assoc] at this
          exact nn_of_pos upos this
        have k0 : dot (yV u v) y ≠ 0 := fun q => by
          rw [q, sm_0] at e
          exact sm_ne (by omega) y0 e
        have same : ∀ c ∈ Gc, c.1 ≠ 0 → v.1 * cmp3 c (3 - pvt u) = cmp3 v (3 - pvt u) * c.1 → v = c := fun c hc c0 q => by
          have := cw c hc
          exact par_prim' (a := (1, 0, 0)) v1 (prim c hc (Or.inl c0)).1 (par2 hp v3 (cp c hc) q) (by rw [dot_e0]; exact w) (by rw [dot_e0]; omega)
        by_cases hk : 0 < dot (yV u v) y
        · refine Or.inl ?_
          have key : ∀ c ∈ Gc, 0 ≤ v.1 * cmp3 c (3 - pvt u) - cmp3 v (3 - pvt u) * c.1 := fun c hc => nn_of_pos hk (key c hc)
          have hd : s.2.2.2.1 = false := by
            cases q : s.2.2.2.1
            · rfl
            · obtain ⟨c, hc, c0, cz⟩ := down.mp q
              have := key c hc
              rw [c0, Int.mul_zero] at this
              have := Int.mul_neg_of_pos_of_neg w cz
              omega
          refine ⟨hd, same _ lom l2 ?_⟩
          have b1 := key _ lom
          have b2 := vL hd
          rw [Int.mul_comm (gt Gc lo).1, Int.mul_comm _ v.1] at b2
          omega
        · refine Or.inr ?_
          have hk : 0 < -(dot (yV u v) y) := by omega
          have key : ∀ c ∈ Gc, 0 ≤ -(v.1 * cmp3 c (3 - pvt u) - cmp3 v (3 - pvt u) * c.1) := fun c hc => nn_of_pos hk (by rw [Int.neg_mul_neg]; exact key c hc)
          have hd : s.2.2.1 = false := by
            cases q : s.2.2.1
            · rfl
            · obtain ⟨c, hc, c0, cz⟩ := up.mp q
              have := key c hc
              rw [c0, Int.mul_zero] at this
              have := Int.mul_pos w cz
              omega
          refine ⟨hd, same _ him i2 ?_⟩
          have b1 := key _ him
          have b2 := vH hd
          rw [Int.mul_comm (gt Gc hi).1, Int.mul_comm _ v.1] at b2
          omega
end ACR
