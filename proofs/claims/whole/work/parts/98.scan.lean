/-! THE REFERENCE'S LOOKS over its lists -/
def scn (P : Nat → Bool) (l : List V3) : Nat → Nat → Option Nat → Bool → Bool
  | 0, _, _, e => e
  | n + 1, j, f, e => if P j = true then (match f with
      | none => scn P l n (j + 1) (some j) e
      | some q => scn P l n (j + 1) (some q) (e || decide (xp (gt l q) (gt l j) ≠ (0, 0, 0)))) else scn P l n (j + 1) f e
section SCAN
variable {P : Nat → Bool} {l : List V3}
theorem scn_some {q : Nat} : ∀ {n j : Nat} {e : Bool}, scn P l n j (some q) e = true ↔ e = true ∨ ∃ i, j ≤ i ∧ i < j + n ∧ P i = true ∧ xp (gt l q) (gt l i) ≠ O3
  | 0, j, e => ⟨Or.inl, fun h => h.elim id fun ⟨i, h1, h2, _⟩ => by omega⟩
  | n + 1, j, e => by
    unfold scn
    by_cases c : P j = true
    · rw [if_pos c]
      show scn P l n (j + 1) (some q) (e || decide (xp (gt l q) (gt l j) ≠ (0, 0, 0))) = true ↔ _
      rw [scn_some, Bool.or_eq_true, decide_eq_true_iff]
      constructor
      · rintro ((h | h) | ⟨i, h1, h2, h3⟩)
        · exact Or.inl h
        · exact Or.inr ⟨j, by omega, by omega, c, h⟩
        · exact Or.inr ⟨i, by omega, by omega, h3⟩
      · rintro (h | ⟨i, h1, h2, h3, h4⟩)
        · exact Or.inl (Or.inl h)
        · by_cases e : i = j
          · subst e; exact Or.inl (Or.inr h4)
          · exact Or.inr ⟨i, by omega, by omega, h3, h4⟩
    · rw [if_neg c, scn_some]
      constructor
      · rintro (h | ⟨i, h1, h2, h3⟩)
        · exact Or.inl h
        · exact Or.inr ⟨i, by omega, by omega, h3⟩
      · rintro (h | ⟨i, h1, h2, h3⟩)
        · exact Or.inl h
        · by_cases e : i = j
          · subst e; exact absurd h3.1 c
          · exact Or.inr ⟨i, by omega, by omega, h3⟩
theorem scn_none : ∀ {n j : Nat}, (∀ i, j ≤ i → i < j + n → P i = true → gt l i ≠ O3) → (scn P l n j none false = true ↔ ∃ i i', (j ≤ i ∧ i < j + n) ∧ (j ≤ i' ∧ i' < j + n) ∧ P i = true ∧ P i' = true ∧ xp (gt l i) (gt l i') ≠ O3)
  | 0, j, _ => ⟨fun h => (by cases h), fun ⟨i, i', h, _⟩ => by omega⟩
  | n + 1, j, hn => by
    unfold scn
    by_cases c : P j = true
    · rw [if_pos c]
      show scn P l n (j + 1) (some j) false = true ↔ _
      rw [scn_some]
      constructor
      · rintro (h | ⟨i, h1, h2, h3, h4⟩)
        · cases h
        · exact ⟨j, i, by omega, by omega, c, h3, h4⟩
      · rintro ⟨i, i', h1, h2, h3, h4, h5⟩
        refine Or.inr (Classical.byContradiction fun hne => h5 ?_)
        have k : ∀ s, j ≤ s → s < j + (n + 1) → P s = true → xp (gt l j) (gt l s) = O3 := fun s s1 s2 s3 => by
          by_cases e : s = j
          · rw [e]; exact xp_self _
          · exact Classical.byContradiction fun q => hne ⟨s, by omega, by omega, s3, q⟩
        exact par_trans (hn j (by omega) (by omega) c) (k i h1.1 h1.2 h3) (k i' h2.1 h2.2 h4)
    · rw [if_neg c, scn_none fun i h1 h2 h3 => hn i (by omega) (by omega) h3]
      constructor
      · rintro ⟨i, i', h1, h2, h3⟩
        exact ⟨i, i', by omega, by omega, h3⟩
      · rintro ⟨i, i', h1, h2, h3, h4, h5⟩
        have e1 : i ≠ j := fun q => c (by rw [← q]; exact h3)
        have e2 : i' ≠ j := fun q => c (by rw [← q]; exact h4)
        exact ⟨i, i', by omega, by omega, h3, h4, h5⟩
end SCAN
section CUTS
variable {C G : List V3}
theorem cu2_1 {k : V3} : ∀ {n j : Nat} {f : Option Nat} {t p : Bool}, (cu2 G k n j f t p).1 = scn (fun j => decide (dot k (gt G j) = 0)) G n j f t
  | 0, _, _, _, _ => rfl
  | n + 1, j, f, t, p => by
    unfold cu2 scn
    by_cases c : dot k (gt G j) = 0
    · rw [if_pos c, if_pos (decide_eq_true c)]
      cases f with
      | none => exact cu2_1
      | some q => exact cu2_1
    · rw [if_neg c, if_neg (by simpa using c)]
      exact cu2_1
theorem cu2_2 {k : V3} : ∀ {n j : Nat} {f : Option Nat} {t p : Bool}, (cu2 G k n j f t p).2 = true ↔ p = true ∨ ∃ i, j ≤ i ∧ i < j + n ∧ dot k (gt G i) = 0 ∧ 0 < (gt G i).1
  | 0, _, _, _, _ => ⟨Or.inl, fun h => h.elim id fun ⟨i, h1, h2, _⟩ => by omega⟩
  | n + 1, j, f, t, p => by
    unfold cu2
    by_cases c : dot k (gt G j) = 0
    · rw [if_pos c]
      have key : ∀ f' t', ((cu2 G k n (j + 1) f' t' (p || decide (0 < (gt G j).1))).2 = true ↔ p = true ∨ ∃ i, j ≤ i ∧ i < j + (n + 1) ∧ dot k (gt G i) = 0 ∧ 0 < (gt G i).1) := fun f' t' => by
        rw [cu2_2, Bool.or_eq_true, decide_eq_true_iff]
        constructor
        · rintro ((h | h) | ⟨i, h1, h2, h3⟩)
          · exact Or.inl h
          · exact Or.inr ⟨j, by omega, by omega, c, h⟩
          · exact Or.inr ⟨i, by omega, by omega, h3⟩
        · rintro (h | ⟨i, h1, h2, h3, h4⟩)
          · exact Or.inl (Or.inl h)
          · by_cases e : i = j
            · subst e; exact Or.inl (Or.inr h4)
            · exact Or.inr ⟨i, by omega, by omega, h3, h4⟩
      cases f with
      | none => exact key _ _
      | some q => exact key _ _
    · rw [if_neg c, cu2_2]
      constructor
      · rintro (h | ⟨i, h1, h2, h3⟩)
        · exact Or.inl h
        · exact Or.inr ⟨i, by omega, by omega, h3⟩
      · rintro (h | ⟨i, h1, h2, h3⟩)
        · exact Or.inl h
        · by_cases e : i = j
          · subst e; exact absurd h3.1 c
          · exact Or.inr ⟨i, by omega, by omega, h3⟩
theorem cutB_iff (hn : ∀ g ∈ G, g ≠ O3) {k : V3} {dm : Nat} : cutB G k dm = true ↔ (∃ g, g ∈ G ∧ dot k g = 0 ∧ 0 < g.1) ∧ (dm = 1 ∨ ∃ g g', g ∈ G ∧ g' ∈ G ∧ dot k g = 0 ∧ dot k g' = 0 ∧ xp g g' ≠ O3) := by
  unfold cutB
  rw [Bool.and_eq_true, Bool.or_eq_true, decide_eq_true_iff, cu2_2, cu2_1, scn_none fun i h1 h2 _ => hn _ (gt_mem (by omega))]
  refine and_congr ?_ (or_congr Iff.rfl ?_)
  · constructor
    · rintro (h | ⟨i, h1, h2, h3, h4⟩)
      · cases h
      · exact ⟨_, gt_mem (by omega), h3, h4⟩
    · rintro ⟨g, hg, h3⟩
      obtain ⟨i, hi, rfl⟩ := mem_gt hg
      exact Or.inr ⟨i, by omega, by omega, h3⟩
  · constructor
    · rintro ⟨i, i', h1, h2, h3, h4, h5⟩
      exact ⟨_, _, gt_mem (by omega), gt_mem (by omega), of_decide_eq_true h3, of_decide_eq_true h4, h5⟩
    · rintro ⟨g, g', hg, hg', h3, h4, h5⟩
      obtain ⟨i, hi, rfl⟩ := mem_gt hg
      obtain ⟨i', hi', rfl⟩ := mem_gt hg'
      exact ⟨i, i', by omega, by omega, decide_eq_true h3, decide_eq_true h4, h5⟩
theorem ie2_scn {C' : List V3} {fg : Nat → Bool} {v : V3} {dm : Nat} (hd : dm ≠ 1) : ∀ {n j : Nat} {f : Option Nat} {e : Bool}, ie2 C' fg v dm n j f e = scn (fun j => !(fg j) && decide (dot (gt C' j) v = 0)) C' n j f e
  | 0, _, _, _ => rfl
  | n + 1, j, f, e => by
    unfold ie2 scn
    by_cases c : fg j = true ∨ dot (gt C' j) v ≠ 0
    · rw [if_pos c, if_neg]
      · exact ie2_scn hd
      · intro q
        simp only [Bool.and_eq_true, Bool.not_eq_true', decide_eq_true_iff] at q
        rcases c with c | c
        · rw [q.1] at c; cases c
        · exact c q.2
    · rw [if_neg c, if_neg hd, if_pos]
      · cases f with
        | none => exact ie2_scn hd
        | some q => exact ie2_scn hd
      · simp only [Bool.and_eq_true, Bool.not_eq_true', decide_eq_true_iff]
        refine ⟨?_, Classical.byContradiction fun q => c (Or.inr q)⟩
        cases h : fg j
        · rfl
        · exact absurd (Or.inl h) c
theorem ie2_1 {C' : List V3} {fg : Nat → Bool} {v : V3} : ∀ {n j : Nat} {f : Option Nat} {e : Bool}, ie2 C' fg v 1 n j f e = true ↔ e = true ∨ ∃ i, j ≤ i ∧ i < j + n ∧ fg i = false ∧ dot (gt C' i) v = 0
  | 0, _, _, _ => ⟨Or.inl, fun h => h.elim id fun ⟨i, h1, h2, _⟩ => by omega⟩
  | n + 1, j, f, e => by
    unfold ie2
    by_cases c : fg j = true ∨ dot (gt C' j) v ≠ 0
    · rw [if_pos c, ie2_1]
      constructor
      · rintro (h | ⟨i, h1, h2, h3⟩)
        · exact Or.inl h
        · exact Or.inr ⟨i, by omega, by omega, h3⟩
      · rintro (h | ⟨i, h1, h2, h3, h4⟩)
        · exact Or.inl h
        · by_cases e : i = j
          · subst e
            rcases c with c | c
            · rw [h3] at c; cases c
            · exact absurd h4 c
          · exact Or.inr ⟨i, by omega, by omega, h3, h4⟩
    · rw [if_neg c, if_pos rfl, ie2_1]
      refine ⟨fun _ => Or.inr ⟨j, by omega, by omega, ?_, Classical.byContradiction fun q => c (Or.inr q)⟩, fun _ => Or.inl rfl⟩
      cases h : fg j
      · rfl
      · exact absurd (Or.inl h) c
theorem flg_e (h : Pr C G) {j : Nat} (hj : j < (C ++ [((1, 0, 0) : V3)]).length) : flg C G j = flatB G (gt (C ++ [(1, 0, 0)]) j) := by
  unfold flg
  rw [List.length_append] at hj
  simp at hj
  by_cases c : j < C.length
  · rw [if_pos c, gt_app_l c]
  · rw [if_neg c, gt_app_r (by omega), show j - C.length = 0 by omega]
    show false = flatB G (1, 0, 0)
    obtain ⟨g, hg, g0⟩ := h.2.2.2.2
    cases q : flatB G (1, 0, 0)
    · rfl
    · have := flat_iff.mp q g hg
      rw [dot_e0] at this
      omega
theorem endB1_iff (h : Pr C G) {v : V3} : endB C G v 1 = true ↔ ∃ k, k ∈ C ++ [((1, 0, 0) : V3)] ∧ flatB G k = false ∧ dot k v = 0 := by
  unfold endB
  rw [ie2_1]
  have hl : (C ++ [((1, 0, 0) : V3)]).length = C.length + 1 := by simp
  constructor
  · rintro (q | ⟨i, h1, h2, h3, h4⟩)
    · cases q
    · exact ⟨_, gt_mem (by omega), by rw [← flg_e h (by omega)]; exact h3, h4⟩
  · rintro ⟨k, hk, h3, h4⟩
    obtain ⟨i, hi, rfl⟩ := mem_gt hk
    exact Or.inr ⟨i, by omega, by omega, by rw [flg_e h hi]; exact h3, h4⟩
theorem endB2_iff (h : Pr C G) {v : V3} : endB C G v 2 = true ↔ ∃ k k', k ∈ C ++ [((1, 0, 0) : V3)] ∧ k' ∈ C ++ [((1, 0, 0) : V3)] ∧ flatB G k = false ∧ flatB G k' = false ∧ dot k v = 0 ∧ dot k' v = 0 ∧ xp k k' ≠ O3 := by
  have hl : (C ++ [((1, 0, 0) : V3)]).length = C.length + 1 := by simp
  have hn : ∀ k ∈ C ++ [((1, 0, 0) : V3)], k ≠ O3 := fun k hk => by
    rcases List.mem_append.mp hk with q | q
    · exact h.1 k q
    · rw [List.mem_singleton.mp q]; simp
  unfold endB
  rw [ie2_scn (by omega), scn_none fun i h1 h2 _ => hn _ (gt_mem (by omega))]
  simp only [Bool.and_eq_true, Bool.not_eq_true', decide_eq_true_iff]
  constructor
  · rintro ⟨i, i', h1, h2, ⟨h3, h4⟩, ⟨h5, h6⟩, h7⟩
    exact ⟨_, _, gt_mem (by omega), gt_mem (by omega), by rw [← flg_e h (by omega)]; exact h3, by rw [← flg_e h (by omega)]; exact h5, h4, h6, h7⟩
  · rintro ⟨k, k', hk, hk', h3, h5, h4, h6, h7⟩
    obtain ⟨i, hi, rfl⟩ := mem_gt hk
    obtain ⟨i', hi', rfl⟩ := mem_gt hk'
    exact ⟨i, i', by omega, by omega, ⟨by rw [flg_e h hi]; exact h3, h4⟩, ⟨by rw [flg_e h hi']; exact h5, h6⟩, h7⟩
theorem mkM_k {M : Nat → List V3} {k : Nat} {c : V3} : mkM M k c k = kp (M k) (prm c) := by unfold mkM va_up; simp
theorem mkM_o {M : Nat → List V3} {k j : Nat} {c : V3} (h : j ≠ k) : mkM M k c j = M j := by unfold mkM va_up; simp [h]
theorem eqF_o {j : Nat} (hj : j ≠ 0) : ∀ {C : List V3} {M : Nat → List V3}, eqF G C M j = M j
  | [], _ => rfl
  | k :: t, M => by
    unfold eqF
    rw [eqF_o hj]
    split
    · exact mkM_o hj
    · rfl
theorem eqF_no : ∀ {C : List V3} {M : Nat → List V3}, (∀ k ∈ C, flatB G k = false) → eqF G C M = M
  | [], _, _ => rfl
  | k :: t, M, h => by
    unfold eqF
    rw [if_neg (by rw [h k List.mem_cons_self]; simp)]
    exact eqF_no fun k' hk' => h k' (List.mem_cons_of_mem _ hk')
theorem eqF_one {l : V3} (hl : gcd3 l = 1) : ∀ {C : List V3} {M : Nat → List V3}, (∀ k ∈ C, flatB G k = true → rctV (prm k) = l) → (M 0 = [l] ∨ (M 0 = [] ∧ ∃ k, k ∈ C ∧ flatB G k = true)) → eqF G C M 0 = [l]
  | [], M, _, h => h.elim id fun ⟨_, k, q, _⟩ => absurd q List.not_mem_nil
  | k :: t, M, hC, h => by
    unfold eqF
    refine eqF_one hl (fun k' hk' => hC k' (List.mem_cons_of_mem _ hk')) ?_
    by_cases c : flatB G k = true
    · rw [if_pos c]
      refine Or.inl ?_
      rw [mkM_k, hC k List.mem_cons_self c, prm_id hl]
      unfold kp
      rcases h with h | h
      · rw [h]; simp
      · rw [h.1]; simp
    · rw [if_neg c]
      rcases h with h | ⟨h, k', hk', hf⟩
      · exact Or.inl h
      · refine Or.inr ⟨h, k', ?_, hf⟩
        rcases List.mem_cons.mp hk' with rfl | q
        · exact absurd hf c
        · exact q
theorem aiF_o {M : Nat → List V3} {k : V3} {j : Nat} (hj : j ≠ 1) : aiF M k j = M j := by
  unfold aiF
  split
  · rfl
  · exact mkM_o hj
theorem iqF_o {dm j : Nat} (hj : j ≠ 1) : ∀ {C : List V3} {M : Nat → List V3}, iqF G dm C M j = M j
  | [], _ => rfl
  | k :: t, M => by
    unfold iqF
    rw [iqF_o hj]
    split
    · exact aiF_o hj
    · rfl
theorem aiV_c {M M' : Nat → List V3} (h : M 0 = M' 0) (k : V3) : aiV M k = aiV M' k := by unfold aiV; rw [h]
theorem iqF_mem {dm : Nat} {v : V3} : ∀ {C : List V3} {M : Nat → List V3}, v ∈ iqF G dm C M 1 ↔ v ∈ M 1 ∨ ∃ k, k ∈ C ∧ flatB G k = false ∧ cutB G k dm = true ∧ ¬ ((aiV M k).2.1 = 0 ∧ (aiV M k).2.2 = 0) ∧ v = prm (aiV M k)
  | [], _ => ⟨Or.inl, fun h => h.elim id fun ⟨_, q, _⟩ => absurd q List.not_mem_nil⟩
  | k :: t, M => by
    unfold iqF
    rw [iqF_mem]
    by_cases c : flatB G k = false ∧ cutB G k dm = true
    · rw [if_pos c]
      have e : ∀ k', aiV (aiF M k) k' = aiV M k' := aiV_c (aiF_o (by omega))
      simp only [e]
      by_cases d : (aiV M k).2.1 = 0 ∧ (aiV M k).2.2 = 0
      · unfold aiF
        rw [if_pos d]
        constructor
        · rintro (h | ⟨k', h1, h2⟩)
          · exact Or.inl h
          · exact Or.inr ⟨k', List.mem_cons_of_mem _ h1, h2⟩
        · rintro (h | ⟨k', h1, h2⟩)
          · exact Or.inl h
          · rcases List.mem_cons.mp h1 with rfl | h1
            · exact absurd d h2.2.2.1
            · exact Or.inr ⟨k', h1, h2⟩
      · unfold aiF
        rw [if_neg d, mkM_k, kp_mem_z]
        constructor
        · rintro ((h | h) | ⟨k', h1, h2⟩)
          · exact Or.inl h
          · exact Or.inr ⟨k, List.mem_cons_self, c.1, c.2, d, h⟩
          · exact Or.inr ⟨k', List.mem_cons_of_mem _ h1, h2⟩
        · rintro (h | ⟨k', h1, h2⟩)
          · exact Or.inl (Or.inl h)
          · rcases List.mem_cons.mp h1 with rfl | h1
            · exact Or.inl (Or.inr h2.2.2.2)
            · exact Or.inr ⟨k', h1, h2⟩
    · rw [if_neg c]
      constructor
      · rintro (h | ⟨k', h1, h2⟩)
        · exact Or.inl h
        · exact Or.inr ⟨k', List.mem_cons_of_mem _ h1, h2⟩
      · rintro (h | ⟨k', h1, h2⟩)
        · exact Or.inl h
        · rcases List.mem_cons.mp h1 with rfl | h1
          · exact absurd ⟨h2.1, h2.2.1⟩ c
          · exact Or.inr ⟨k', h1, h2⟩
theorem iqF_nd {dm : Nat} : ∀ {C : List V3} {M : Nat → List V3}, (M 1).Nodup → (iqF G dm C M 1).Nodup
  | [], _, h => h
  | k :: t, M, h => by
    unfold iqF
    refine iqF_nd ?_
    split
    · unfold aiF
      split
      · exact h
      · rw [mkM_k]; exact kp_nd h
    · exact h
end CUTS
