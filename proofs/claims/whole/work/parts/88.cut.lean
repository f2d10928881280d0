/-! THE CUT, and many cuts -/
theorem fl_some {L : List V3} {a : V3} : ∀ {n i k : Nat}, fl L a n i = some k → k < i + n ∧ dot (gt L k) a ≠ 0
  | 0, _, _, h => by cases h
  | n + 1, i, k, h => by
    unfold fl at h
    split at h
    · have := fl_some h
      exact ⟨by omega, this.2⟩
    · rename_i c
      injection h with h
      subst h
      exact ⟨by omega, c⟩
theorem fl_none {L : List V3} {a : V3} : ∀ {n i : Nat}, fl L a n i = none → ∀ k, i ≤ k → k < i + n → dot (gt L k) a = 0
  | 0, _, _, k, h1, h2 => by omega
  | n + 1, i, h, k, h1, h2 => by
    unfold fl at h
    split at h
    · rename_i c
      by_cases hk : k = i
      · rw [hk]; exact c
      · exact fl_none h k (by omega) (by omega)
    · cases h
theorem Inv_z.congr {A B : V3 → Prop} {L E : List V3} (h : Inv_z A L E) (hAB : ∀ v, A v ↔ B v) : Inv_z B L E := by
  have : A = B := funext fun v => propext (hAB v)
  rw [← this]; exact h
theorem crs_l {x y : Int} (h1 : 0 < x) (h2 : y < 0) : crs x y = true := decide_eq_true (Or.inr ⟨h1, h2⟩)
theorem crs_r {x y : Int} (h1 : x < 0) (h2 : 0 < y) : crs x y = true := decide_eq_true (Or.inl ⟨h1, h2⟩)
theorem lin_comm (a b : Int) (u v : V3) : lin a b u v = lin b a v u := by unfold lin; refine v_ext ?_ ?_ ?_ <;> grind
theorem Inv_z.two {A : V3 → Prop} {L : List V3} {p q m a : V3} {E E' : List V3} {g α β : Int} (h : Inv_z A L E) (hE : ∀ e, e ∈ E ↔ e = p ∨ e = q) (hE2 : E.length = 2) (hsd : L = [] → Sd A p q) (hL : ∀ l ∈ L, dot a l = 0)
    (hp : 0 < dot a p) (hq : dot a q < 0) (hg : 0 < g) (ha : 0 < α) (hb : 0 < β) (e : sm g m = lin α β p q) (h0 : dot a m = 0) (hm : gcd3 m = 1) (hE' : E' = [p, m] ∨ E' = [m, p]) : Inv_z (An A a) L E' := by
  obtain ⟨⟨a1, a2, a3, a4⟩, ⟨b1, b2, b3⟩, ⟨J, c1, c2, c3⟩, d, e6⟩ := h
  have hl1 : L.length ≤ 1 := by
    by_cases c : L = []
    · rw [c]; simp
    · have := d c
      omega
  obtain ⟨t1, t2, t3⟩ := two_cut (A := A) (L := L) (p := p) (q := q) (m := m) (a := a) (fun f hf => b1 f ((hE f).mpr hf)) hL hp hq
    (fun x hx => (a4 x hx).mono (fun _ h => h) (fun f hf => by rcases (hE f).mp hf with h | h <;> rw [h] <;> simp)) hg ha hb e h0 hm hsd hl1
  have hp4 := b1 p ((hE p).mpr (Or.inl rfl))
  have mem : ∀ f, f ∈ E' ↔ f = p ∨ f = m := fun f => by
    rcases hE' with h | h
    · rw [h]; simp
    · rw [h]; simp; exact Or.comm
  have len : E'.length = 2 := by rcases hE' with h | h <;> rw [h] <;> rfl
  refine ⟨⟨fun b hb l hl => hb.elim (fun z => a1 b z l hl) (fun z => by rw [z]; exact hL l hl), a2, a3.mono fun b hb => Or.inl hb, fun x hx => (t1 x hx).mono (fun _ h => h) (fun f hf => (mem f).mpr (by simpa using hf))⟩,
    ⟨fun f hf => ?_, b2, ?_⟩, ⟨J, c1, c2, fun f hf k hk => ?_⟩, fun z => by have := d z; omega, fun z => ⟨fun _ => ?_, fun z => by omega⟩⟩
  · rcases (mem f).mp hf with h | h
    · rw [h]
      exact ⟨Ce.an.mpr ⟨hp4.1, by omega⟩, hp4.2.1, hp4.2.2.mono fun b hb => ⟨Or.inl hb.1, hb.2⟩⟩
    · rw [h]; exact t2
  · rcases hE' with h | h
    · rw [h]; exact List.pairwise_cons.mpr ⟨fun x hx => by rw [List.mem_singleton.mp hx]; exact t3, List.pairwise_singleton _ _⟩
    · rw [h]; exact List.pairwise_cons.mpr ⟨fun x hx => by rw [List.mem_singleton.mp hx]; exact xp_ne_symm t3, List.pairwise_singleton _ _⟩
  · rcases (mem f).mp hf with h | h
    · rw [h]; exact c3 p ((hE p).mpr (Or.inl rfl)) k hk
    · rw [h]
      have := congrArg (fun v => cmp3 v (J k)) e
      rw [cmp_sm, cmp_lin, c3 p ((hE p).mpr (Or.inl rfl)) k hk, c3 q ((hE q).mpr (Or.inr rfl)) k hk, Int.mul_zero, Int.mul_zero, Int.add_zero] at this
      exact (Int.mul_eq_zero.mp this).resolve_left (by omega)
  · obtain ⟨f, hf, hf0, q1, q2⟩ := hsd z
    have z1 := cr_z hg e q1 q2
    rcases hE' with h | h
    · rw [h]; exact ⟨⟨f, Or.inl hf, hf0, q1, z1⟩, trivial⟩
    · rw [h]; exact ⟨⟨f, Or.inl hf, hf0, z1, q1⟩, trivial⟩
/-- one cut -/
theorem Inv_z.cut {A : V3 → Prop} {L E : List V3} (h : Inv_z A L E) (a : V3) : Inv_z (An A a) (cutF a (L, E)).1 (cutF a (L, E)).2 ∧ (cutF a (L, E)).2.length ≤ E.length + 1 := by
  unfold cutF
  cases hf : fl L a L.length 0 with
  | some i =>
    obtain ⟨h1, h2⟩ := fl_some hf
    refine ⟨h.line (by omega) h2, ?_⟩
    show (clE L E i a).length ≤ _
    unfold clE
    rw [List.length_append, List.length_map, List.length_singleton]
    exact Nat.le_refl _
  | none =>
    have hL : ∀ l ∈ L, dot a l = 0 := fun l hl => by
      obtain ⟨i, hi, he⟩ := List.getElem_of_mem hl
      have : gt L i = l := gt_of (List.getElem?_eq_some_iff.mpr ⟨hi, he⟩)
      rw [← this, dot_comm]
      exact fl_none hf i (by omega) (by omega)
    show Inv_z (An A a) (if anyB E a = true then (L, ceA E a E.length) else (L, E)).1 (if anyB E a = true then (L, ceA E a E.length) else (L, E)).2 ∧ (if anyB E a = true then (L, ceA E a E.length) else (L, E)).2.length ≤ E.length + 1
    by_cases hany : anyB E a = true
    · rw [if_pos hany]
      unfold anyB at hany
      rw [List.any_eq_true] at hany
      obtain ⟨n, hn, hneg⟩ := hany
      have hneg := of_decide_eq_true hneg
      have ha : a ≠ O3 := fun q => by rw [q, dot_0] at hneg; omega
      show Inv_z (An A a) L (ceA E a E.length) ∧ (ceA E a E.length).length ≤ E.length + 1
      by_cases hpos : ∃ e ∈ E, 0 < dot e a
      · by_cases h3 : 3 ≤ E.length
        · have hL0 : L = [] := Classical.byContradiction fun q => by
            have := h.2.2.2.1 q
            have := List.length_pos_iff.mpr q
            omega
          subst hL0
          obtain ⟨⟨a1, a2, a3, a4⟩, ⟨b1, b2, b3⟩, -, -, e6⟩ := h
          obtain ⟨hC, s, hs, hT⟩ := (e6 rfl).2 h3
          obtain ⟨r1, r2, r3, r4, r5⟩ := poly_cut b1 h3 hT hC ⟨n, hn, hneg⟩ hpos
          exact ⟨⟨⟨fun _ _ l hl => absurd hl List.not_mem_nil, by simp, a3.mono fun b hb => Or.inl hb, fan hs r1 r3 r4 fun e he => (r5 e he).1⟩, ⟨r5, fun l hl => absurd hl List.not_mem_nil, r3.pw r1⟩, ⟨fun _ => 0, fun i hi => absurd hi (Nat.not_lt_zero _), fun i _ hi => absurd hi (Nat.not_lt_zero _), fun _ _ k hk => absurd hk (Nat.not_lt_zero _)⟩, fun q => absurd rfl q, fun _ => ⟨fun q => by omega, fun _ => ⟨r4, s, hs, r3⟩⟩⟩, r2⟩
        · match E, h3, hn, hpos, h with
          | [], _, hn, _, _ => exact absurd hn List.not_mem_nil
          | [u], _, hn, hpos, _ =>
            obtain ⟨e, he, hp⟩ := hpos
            rw [List.mem_singleton.mp hn] at hneg
            rw [List.mem_singleton.mp he] at hp
            omega
          | [u, v], _, hn, hpos, h =>
            have hsd : L = [] → Sd A u v := fun z => ((h.2.2.2.2 z).1 rfl).1
            have huv : xp u v ≠ O3 := by
              have := h.2.1.2.2
              rw [List.pairwise_cons] at this
              exact this.1 v (by simp)
            have heq : ceA [u, v] a [u, v].length = (ce1 u a ++ ce2 true u v a) ++ ((ce1 v a ++ ce2 false v u a) ++ []) := rfl
            have hlen2 : ∀ {x y : V3}, ([x, y] : List V3).length ≤ [u, v].length + 1 := fun {x y} => by simp
            rw [heq]
            have e2 : ce2 false v u a = [] := rfl
            rw [e2]
            have cases2 : (0 < dot u a ∧ dot v a < 0) ∨ (dot u a < 0 ∧ 0 < dot v a) := by
              obtain ⟨e, he, hp⟩ := hpos
              have h1 : n = u ∨ n = v := by simpa using hn
              have h2 : e = u ∨ e = v := by simpa using he
              rcases h1 with h1 | h1 <;> rcases h2 with h2 | h2 <;> subst h1 <;> subst h2 <;> omega
            rcases cases2 with ⟨c1, c2⟩ | ⟨c1, c2⟩
            · obtain ⟨g, α, β, hg, hα, hβ, em, pm, zm⟩ := cr_spec huv (Or.inr ⟨c1, c2⟩)
              have : (ce1 u a ++ ce2 true u v a) ++ ((ce1 v a ++ []) ++ []) = [u, crV u v a] := by
                have t1 : ce1 u a = [u] := if_pos (by omega)
                have t2 : ce1 v a = [] := if_neg (by omega)
                have t3 : ce2 true u v a = [crV u v a] := by unfold ce2; rw [crs_l c1 c2]; rfl
                rw [t1, t2, t3]; rfl
              rw [this]
              exact ⟨h.two (p := u) (q := v) (fun e => by simp) rfl hsd hL (by rw [dot_comm]; exact c1) (by rw [dot_comm]; exact c2) hg hα hβ em zm pm (Or.inl rfl), hlen2⟩
            · obtain ⟨g, α, β, hg, hα, hβ, em, pm, zm⟩ := cr_spec huv (Or.inl ⟨c1, c2⟩)
              have : (ce1 u a ++ ce2 true u v a) ++ ((ce1 v a ++ []) ++ []) = [crV u v a, v] := by
                have t1 : ce1 u a = [] := if_neg (by omega)
                have t2 : ce1 v a = [v] := if_pos (by omega)
                have t3 : ce2 true u v a = [crV u v a] := by unfold ce2; rw [crs_r c1 c2]; rfl
                rw [t1, t2, t3]; rfl
              rw [this]
              rw [lin_comm] at em
              exact ⟨h.two (p := v) (q := u) (fun e => by simp; exact Or.comm) rfl (fun z => by obtain ⟨f, q1, q2, q3, q4⟩ := hsd z; exact ⟨f, q1, q2, q4, q3⟩) hL (by rw [dot_comm]; exact c2) (by rw [dot_comm]; exact c1) hg hβ hα em zm pm (Or.inr rfl), hlen2⟩
          | _ :: _ :: _ :: _, h3, _, _, _ => exact absurd (by simp) h3
      · have hle : ∀ e ∈ E, dot a e ≤ 0 := fun e he => by
          rw [dot_comm]
          exact Classical.byContradiction fun q => hpos ⟨e, he, by omega⟩
        rw [ceA_flat hle]
        refine ⟨h.flat hL hle ha, ?_⟩
        have := List.length_filter_le (fun e => decide (dot a e = 0)) E
        omega
    · rw [if_neg hany]
      refine ⟨h.same hL fun e he => ?_, by simp⟩
      refine Classical.byContradiction fun q => hany ?_
      unfold anyB
      rw [List.any_eq_true]
      exact ⟨e, he, decide_eq_true (by rw [dot_comm]; omega)⟩
theorem Inv_z.start : Inv_z (fun _ => False) e3 [] := by
  refine ⟨⟨fun _ h => absurd h id, by decide, trivial, fun x _ => ?_⟩, ⟨fun _ h => absurd h List.not_mem_nil, fun l hl => ?_, List.Pairwise.nil⟩, ⟨fun i => i, fun i hi => ?_, fun i k hi hk hne => ?_, fun _ h => absurd h List.not_mem_nil⟩, fun _ => by decide, fun h => by cases h⟩
  · have : x = ad (sm x.1 (1, 0, 0)) (ad (sm x.2.1 (0, 1, 0)) (sm x.2.2 (0, 0, 1))) := by
      unfold ad sm
      refine v_ext ?_ ?_ ?_ <;> simp
    rw [this]
    exact Hl.add (Hl.line (by simp) _) (Hl.add (Hl.line (by simp) _) (Hl.line (by simp) _))
  · simp at hl
    rcases hl with h | h | h <;> rw [h] <;> decide
  · have hi : i < 3 := hi
    match i, hi with
    | 0, _ => decide
    | 1, _ => decide
    | 2, _ => decide
  · have hi : i < 3 := hi
    have hk : k < 3 := hk
    match i, hi, k, hk, hne with
    | 0, _, 0, _, h => exact absurd rfl h
    | 0, _, 1, _, _ => rfl
    | 0, _, 2, _, _ => rfl
    | 1, _, 0, _, _ => rfl
    | 1, _, 1, _, h => exact absurd rfl h
    | 1, _, 2, _, _ => rfl
    | 2, _, 0, _, _ => rfl
    | 2, _, 1, _, _ => rfl
    | 2, _, 2, _, h => exact absurd rfl h
abbrev Cp : Type := List V3 × List V3
theorem Inv_z.cuts : ∀ {as : List V3} {A : V3 → Prop} {s : Cp}, Inv_z A s.1 s.2 → Inv_z (fun v => A v ∨ v ∈ as) (as.foldl (fun s a => cutF a s) s).1 (as.foldl (fun s a => cutF a s) s).2 ∧ (as.foldl (fun s a => cutF a s) s).2.length ≤ s.2.length + as.length
  | [], A, s, h => ⟨h.congr fun v => by simp, by simp⟩
  | a :: as, A, s, h => by
    obtain ⟨h1, h2⟩ := h.cut a
    obtain ⟨h3, h4⟩ := Inv_z.cuts (as := as) (s := cutF a s) h1
    refine ⟨h3.congr fun v => ?_, ?_⟩
    · unfold An
      rw [List.mem_cons, or_assoc]
    · rw [List.length_cons]
      exact Nat.le_trans h4 (by have : (cutF a s).2.length ≤ s.2.length + 1 := h2; omega)
/-- all the cuts, from the whole space on -/
theorem Inv_z.all (as : List V3) : Inv_z (fun v => v ∈ as) (as.foldl (fun s a => cutF a s) ((e3, []) : Cp)).1 (as.foldl (fun s a => cutF a s) ((e3, []) : Cp)).2 ∧ (as.foldl (fun s a => cutF a s) ((e3, []) : Cp)).2.length ≤ as.length := by
  obtain ⟨h1, h2⟩ := Inv_z.cuts (as := as) (s := (e3, [])) Inv_z.start
  exact ⟨h1.congr fun v => by simp, by simpa using h2⟩
