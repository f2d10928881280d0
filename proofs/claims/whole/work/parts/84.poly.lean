/-! cutting edges that stand round: a block stays, a block goes -/
def ceR (a : V3) : List V3 → List V3
  | [] => []
  | [_] => []
  | x :: y :: l => (ce1 x a ++ ce2 true x y a) ++ ceR a (y :: l)
def hd (l : List V3) : V3 := gt l 0
def la_z (l : List V3) : V3 := gt l (l.length - 1)
theorem ceR_range (a : V3) : ∀ l : List V3, ceR a l = (List.range (l.length - 1)).flatMap fun i => ce1 (gt l i) a ++ ce2 true (gt l i) (gt l (i + 1)) a
  | [] => rfl
  | [_] => rfl
  | x :: y :: l => by
    show (ce1 x a ++ ce2 true x y a) ++ ceR a (y :: l) = _
    rw [ceR_range a (y :: l)]
    simp only [List.length_cons, Nat.add_sub_cancel]
    rw [List.range_succ_eq_map, List.flatMap_cons, List.flatMap_map]
    rfl
theorem nxE_lt {n i : Nat} (h : i + 1 < n) : nxE n i = i + 1 := if_pos h
theorem flatMap_eq {α β : Type} {f g : α → List β} : ∀ {l : List α}, (∀ x ∈ l, f x = g x) → l.flatMap f = l.flatMap g
  | [], _ => rfl
  | x :: l, h => by
    rw [List.flatMap_cons, List.flatMap_cons, h x List.mem_cons_self, flatMap_eq fun y hy => h y (List.mem_cons_of_mem _ hy)]
theorem ceA_ceR {E : List V3} {a : V3} (hn : 3 ≤ E.length) : ceA E a E.length = ceR a (E ++ [hd E]) := by
  rw [ceR_range, List.length_append, List.length_singleton, Nat.add_sub_cancel]
  unfold ceA
  refine flatMap_eq fun i hi => ?_
  have hi : i < E.length := List.mem_range.mp hi
  unfold ceF
  have e1 : sdE E.length i = true := decide_eq_true (Or.inr (by omega))
  rw [e1, gt_app_l hi]
  by_cases c : i + 1 < E.length
  · rw [nxE_lt c, gt_app_l c]
  · rw [gt_app_r (by omega), show i + 1 - E.length = 0 by omega, show nxE E.length i = 0 from if_neg c]; rfl
theorem ceR_split (a y : V3) (Y : List V3) : ∀ X : List V3, ceR a (X ++ y :: Y) = ceR a (X ++ [y]) ++ ceR a (y :: Y)
  | [] => rfl
  | [x] => by
    show (ce1 x a ++ ce2 true x y a) ++ ceR a (y :: Y) = ((ce1 x a ++ ce2 true x y a) ++ []) ++ ceR a (y :: Y)
    rw [List.append_nil]
  | x :: x' :: X => by
    show (ce1 x a ++ ce2 true x x' a) ++ ceR a ((x' :: X) ++ y :: Y) = ((ce1 x a ++ ce2 true x x' a) ++ ceR a ((x' :: X) ++ [y])) ++ ceR a (y :: Y)
    rw [ceR_split a y Y (x' :: X), List.append_assoc, List.append_assoc, List.append_assoc]
theorem ce2_nn {b : Bool} {x y a : V3} (hx : 0 ≤ dot x a) (hy : 0 ≤ dot y a) : ce2 b x y a = [] := by
  unfold ce2 crs
  rw [decide_eq_false (by omega), Bool.and_false]; rfl
theorem ce2_gg {b : Bool} {x y a : V3} (hx : dot x a < 0) (hy : dot y a < 0) : ce2 b x y a = [] := by
  unfold ce2 crs
  rw [decide_eq_false (by omega), Bool.and_false]; rfl
theorem ceR_pos {a y : V3} : ∀ {X : List V3}, X ≠ [] → (∀ x ∈ X, 0 ≤ dot x a) → ceR a (X ++ [y]) = X ++ ce2 true (la_z X) y a
  | [], h, _ => absurd rfl h
  | [x], _, h => by
    show (ce1 x a ++ ce2 true x y a) ++ [] = [x] ++ ce2 true x y a
    unfold ce1
    rw [if_pos (h x List.mem_cons_self), List.append_nil]
  | x :: x' :: X, _, h => by
    show (ce1 x a ++ ce2 true x x' a) ++ ceR a ((x' :: X) ++ [y]) = _
    have e : la_z (x :: x' :: X) = la_z (x' :: X) := rfl
    rw [ceR_pos (by simp) fun z hz => h z (List.mem_cons_of_mem _ hz), e, ce2_nn (h x List.mem_cons_self) (h x' (List.mem_cons_of_mem _ List.mem_cons_self))]
    unfold ce1
    rw [if_pos (h x List.mem_cons_self)]; rfl
theorem ceR_neg {a y : V3} : ∀ {X : List V3}, X ≠ [] → (∀ x ∈ X, dot x a < 0) → ceR a (X ++ [y]) = ce2 true (la_z X) y a
  | [], h, _ => absurd rfl h
  | [x], _, h => by
    show (ce1 x a ++ ce2 true x y a) ++ [] = ce2 true x y a
    unfold ce1
    rw [if_neg (by have := h x List.mem_cons_self; omega), List.append_nil]; rfl
  | x :: x' :: X, _, h => by
    show (ce1 x a ++ ce2 true x x' a) ++ ceR a ((x' :: X) ++ [y]) = _
    have e : la_z (x :: x' :: X) = la_z (x' :: X) := rfl
    rw [ceR_neg (by simp) fun z hz => h z (List.mem_cons_of_mem _ hz), e, ce2_gg (h x List.mem_cons_self) (h x' (List.mem_cons_of_mem _ List.mem_cons_self))]
    unfold ce1
    rw [if_neg (by have := h x List.mem_cons_self; omega)]; rfl
theorem spl (p : V3 → Prop) : ∀ l : List V3, ∃ X Y, l = X ++ Y ∧ (∀ x ∈ X, p x) ∧ ∀ y Y', Y = y :: Y' → ¬ p y
  | [] => ⟨[], [], rfl, fun _ h => absurd h List.not_mem_nil, fun _ _ h => by cases h⟩
  | x :: l => by
    by_cases c : p x
    · obtain ⟨X, Y, h1, h2, h3⟩ := spl p l
      refine ⟨x :: X, Y, by rw [h1]; rfl, fun z hz => ?_, h3⟩
      rcases List.mem_cons.mp hz with h | h
      · rw [h]; exact c
      · exact h2 z h
    · refine ⟨[], x :: l, rfl, fun _ h => absurd h List.not_mem_nil, fun y Y' h => ?_⟩
      injection h with h1 h2
      rw [← h1]; exact c
def Rot (l m : List V3) : Prop := ∃ X Y, l = X ++ Y ∧ m = Y ++ X
theorem Rot.mem {l m : List V3} (h : Rot l m) {x : V3} : x ∈ l ↔ x ∈ m := by
  obtain ⟨X, Y, rfl, rfl⟩ := h
  rw [List.mem_append, List.mem_append]; exact Or.comm
theorem Rot.len {l m : List V3} (h : Rot l m) : l.length = m.length := by
  obtain ⟨X, Y, rfl, rfl⟩ := h
  rw [List.length_append, List.length_append, Nat.add_comm]
theorem Rot.t3 {l m : List V3} {s : Int} (h : Rot l m) : T3 s l ↔ T3 s m := by
  obtain ⟨X, Y, rfl, rfl⟩ := h
  exact ⟨T3.rot, T3.rot⟩
theorem Rot.cy {l m : List V3} {F : V3 → V3 → Prop} (h : Rot l m) : Cy F l ↔ Cy F m := by
  obtain ⟨X, Y, rfl, rfl⟩ := h
  exact ⟨Cy.rot, Cy.rot⟩
theorem gt_at {X Y : List V3} {y : V3} : gt (X ++ y :: Y) X.length = y := by rw [gt_app_r (Nat.le_refl _), Nat.sub_self]; rfl
/-- the edges that stay stand in one block, and what the cut leaves -/
theorem block {s : Int} {E : List V3} (hT : T3 s E) (hn : 3 ≤ E.length) {a : V3} (h1 : ∃ e ∈ E, dot e a < 0) (h2 : ∃ e ∈ E, 0 ≤ dot e a) :
    ∃ P N, P ≠ [] ∧ N ≠ [] ∧ (∀ x ∈ P, 0 ≤ dot x a) ∧ (∀ x ∈ N, dot x a < 0) ∧ Rot E (P ++ N) ∧ Rot (ceA E a E.length) ((P ++ ce2 true (la_z P) (hd N) a) ++ ce2 true (la_z N) (hd P) a) := by
  rw [ceA_ceR hn]
  obtain ⟨P1, R1, e1, p1, q1⟩ := spl (fun x => 0 ≤ dot x a) E
  obtain ⟨N, R2, e2, p2, q2⟩ := spl (fun x => dot x a < 0) R1
  obtain ⟨P2, R3, e3, p3, q3⟩ := spl (fun x => 0 ≤ dot x a) R2
  obtain ⟨N2, R4, e4, p4, q4⟩ := spl (fun x => dot x a < 0) R3
  have hN : N ≠ [] := by
    intro h
    rw [h, List.nil_append] at e2
    cases R1 with
    | nil =>
      rw [List.append_nil] at e1
      obtain ⟨e, he, hl⟩ := h1
      rw [e1] at he
      have := p1 e he
      omega
    | cons y Y =>
      have g1 := q1 y Y rfl
      have g2 := q2 y Y e2.symm
      omega
  obtain ⟨n, N', rfl⟩ := List.exists_cons_of_ne_nil hN
  cases R3 with
  | nil =>
    rw [List.append_nil] at e3
    subst e3
    cases P1 with
    | nil =>
      rw [List.nil_append] at e1
      subst e1; subst e2
      have hP2 : R2 ≠ [] := by
        intro h
        rw [h, List.append_nil] at h2
        obtain ⟨e, he, hl⟩ := h2
        have := p2 e he
        omega
      obtain ⟨p, P', rfl⟩ := List.exists_cons_of_ne_nil hP2
      refine ⟨p :: P', n :: N', by simp, by simp, p3, p2, ⟨_, _, rfl, rfl⟩, ?_⟩
      refine ⟨ce2 true (la_z (n :: N')) (hd (p :: P')) a, (p :: P') ++ ce2 true (la_z (p :: P')) (hd (n :: N')) a, ?_, rfl⟩
      rw [show (n :: N' ++ p :: P') ++ [hd (n :: N' ++ p :: P')] = (n :: N') ++ p :: (P' ++ [n]) by rw [List.append_assoc]; rfl, ceR_split, ceR_neg (by simp) p2, show p :: (P' ++ [n]) = (p :: P') ++ [n] from rfl, ceR_pos (by simp) p3]; rfl
    | cons r P1 =>
      cases R2 with
      | nil =>
        rw [List.append_nil] at e2
        subst e2; subst e1
        refine ⟨r :: P1, n :: N', by simp, by simp, p1, p2, ⟨[], r :: P1 ++ n :: N', rfl, (List.append_nil _).symm⟩, ⟨[], _, ?_, (List.append_nil _).symm⟩⟩
        rw [List.nil_append, show (r :: P1 ++ n :: N') ++ [hd (r :: P1 ++ n :: N')] = (r :: P1) ++ n :: (N' ++ [r]) by rw [List.append_assoc]; rfl, ceR_split, ceR_pos (by simp) p1, show n :: (N' ++ [r]) = (n :: N') ++ [r] from rfl, ceR_neg (by simp) p2]; rfl
      | cons p P' =>
        subst e2; subst e1
        refine ⟨(p :: P') ++ (r :: P1), n :: N', by simp, by simp, ?_, p2, ⟨(r :: P1) ++ (n :: N'), p :: P', by rw [List.append_assoc], by rw [List.append_assoc]⟩, ?_⟩
        · intro x hx
          rcases List.mem_append.mp hx with h | h
          · exact p3 x h
          · exact p1 x h
        · have hl : la_z ((p :: P') ++ (r :: P1)) = la_z (r :: P1) := by
            unfold la_z
            rw [gt_app_r (by simp <;> omega), List.length_append]
            congr 1
            simp <;> omega
          have hh : hd ((p :: P') ++ (r :: P1)) = p := rfl
          refine ⟨((r :: P1) ++ ce2 true (la_z (r :: P1)) n a) ++ ce2 true (la_z (n :: N')) p a, p :: P', ?_, ?_⟩
          · rw [show (r :: P1 ++ (n :: N' ++ p :: P')) ++ [hd (r :: P1 ++ (n :: N' ++ p :: P'))] = (r :: P1) ++ n :: (N' ++ (p :: (P' ++ [r]))) by simp [hd, gt], ceR_split, ceR_pos (by simp) p1,
              show n :: (N' ++ (p :: (P' ++ [r]))) = (n :: N') ++ (p :: (P' ++ [r])) from rfl, ceR_split, ceR_neg (by simp) p2, show p :: (P' ++ [r]) = (p :: P') ++ [r] from rfl, ceR_pos (by simp) p3]
            have hz : ce2 true (la_z (p :: P')) r a = [] := ce2_nn (p3 _ (gt_mem (by simp))) (p1 r List.mem_cons_self)
            rw [hz, List.append_nil, List.append_assoc, List.append_assoc, List.append_assoc]
          · rw [hl, hh]
            show (p :: P' ++ r :: P1 ++ ce2 true (la_z (r :: P1)) n a) ++ ce2 true (la_z (n :: N')) p a = _
            rw [List.append_assoc, List.append_assoc, List.append_assoc]
  | cons z R =>
    have hz : dot z a < 0 := by have := q3 z R rfl; omega
    have hP2 : P2 ≠ [] := by
      intro h
      rw [h, List.nil_append] at e3
      exact q2 z R e3 hz
    obtain ⟨p, P', rfl⟩ := List.exists_cons_of_ne_nil hP2
    have hp : 0 ≤ dot p a := p3 p List.mem_cons_self
    have hnn : dot n a < 0 := p2 n List.mem_cons_self
    have hE : E = P1 ++ (n :: N' ++ (p :: P' ++ z :: R)) := by rw [e1, e2, e3]
    cases P1 with
    | cons r P1 =>
      exfalso
      have hr : 0 ≤ dot r a := p1 r List.mem_cons_self
      have hf := (four hT (i := 0) (j := (r :: P1).length) (k := (r :: P1 ++ n :: N').length) (l := (r :: P1 ++ (n :: N' ++ p :: P')).length) (by simp) (by simp <;> omega) (by simp <;> omega) (by rw [hE]; simp <;> omega) a).1
      have k0 : gt E 0 = r := by rw [hE]; rfl
      have k1 : gt E (r :: P1).length = n := by rw [hE]; exact gt_at
      have k2 : gt E (r :: P1 ++ n :: N').length = p := by rw [hE, show r :: P1 ++ (n :: N' ++ (p :: P' ++ z :: R)) = (r :: P1 ++ n :: N') ++ p :: (P' ++ z :: R) by simp]; exact gt_at
      have k3 : gt E (r :: P1 ++ (n :: N' ++ p :: P')).length = z := by rw [hE, show r :: P1 ++ (n :: N' ++ (p :: P' ++ z :: R)) = (r :: P1 ++ (n :: N' ++ p :: P')) ++ z :: R by simp]; exact gt_at
      rw [k0, k1, k2, k3] at hf
      exact hf hr hnn hp hz
    | nil =>
      rw [List.nil_append] at hE
      have hN2 : N2 ≠ [] := by
        intro h
        rw [h, List.nil_append] at e4
        exact q4 z R e4.symm hz
      obtain ⟨y, N3, rfl⟩ := List.exists_cons_of_ne_nil hN2
      have hy : y = z := by
        have : z :: R = y :: (N3 ++ R4) := e4
        injection this with h _
        exact h.symm
      subst hy
      cases R4 with
      | cons w R4 =>
        exfalso
        have hw : 0 ≤ dot w a := by have := q4 w R4 rfl; omega
        have hE2 : E = n :: N' ++ (p :: P' ++ (y :: N3 ++ w :: R4)) := by rw [hE, e4]
        have hf := (four hT (i := 0) (j := (n :: N').length) (k := (n :: N' ++ p :: P').length) (l := (n :: N' ++ (p :: P' ++ y :: N3)).length) (by simp) (by simp <;> omega) (by simp <;> omega) (by rw [hE2]; simp <;> omega) a).2
        have k0 : gt E 0 = n := by rw [hE2]; rfl
        have k1 : gt E (n :: N').length = p := by rw [hE2]; exact gt_at
        have k2 : gt E (n :: N' ++ p :: P').length = y := by rw [hE2, show n :: N' ++ (p :: P' ++ (y :: N3 ++ w :: R4)) = (n :: N' ++ p :: P') ++ y :: (N3 ++ w :: R4) by simp]; exact gt_at
        have k3 : gt E (n :: N' ++ (p :: P' ++ y :: N3)).length = w := by rw [hE2, show n :: N' ++ (p :: P' ++ (y :: N3 ++ w :: R4)) = (n :: N' ++ (p :: P' ++ y :: N3)) ++ w :: R4 by simp]; exact gt_at
        rw [k0, k1, k2, k3] at hf
        exact hf hnn hp hz hw
      | nil =>
        rw [List.append_nil] at e4
        rw [e4] at hE
        subst hE
        refine ⟨p :: P', (y :: N3) ++ (n :: N'), by simp, by simp, p3, ?_, ⟨n :: N', p :: P' ++ y :: N3, rfl, by rw [List.append_assoc]⟩, ?_⟩
        · intro x hx
          rcases List.mem_append.mp hx with h | h
          · exact p4 x h
          · exact p2 x h
        · have hl : la_z ((y :: N3) ++ (n :: N')) = la_z (n :: N') := by
            unfold la_z
            rw [gt_app_r (by simp <;> omega), List.length_append]
            congr 1
            simp <;> omega
          have hh : hd ((y :: N3) ++ (n :: N')) = y := rfl
          refine ⟨ce2 true (la_z (n :: N')) p a, (p :: P') ++ ce2 true (la_z (p :: P')) y a, ?_, ?_⟩
          · rw [show (n :: N' ++ (p :: P' ++ y :: N3)) ++ [hd (n :: N' ++ (p :: P' ++ y :: N3))] = (n :: N') ++ p :: (P' ++ (y :: (N3 ++ [n]))) by simp [hd, gt], ceR_split, ceR_neg (by simp) p2,
              show p :: (P' ++ (y :: (N3 ++ [n]))) = (p :: P') ++ (y :: (N3 ++ [n])) from rfl, ceR_split, ceR_pos (by simp) p3, show y :: (N3 ++ [n]) = (y :: N3) ++ [n] from rfl, ceR_neg (by simp) p4]
            have hz : ce2 true (la_z (y :: N3)) n a = [] := ce2_gg (p4 _ (gt_mem (by simp))) hnn
            rw [hz, List.append_nil]
          · rw [hl, hh]
            rfl
