/-! THE CUTTING OF A CONE: what stays true -/
/-- x keeps all rows -/
def Ce (A : V3 → Prop) (x : V3) : Prop := ∀ a, A a → 0 ≤ dot a x
/-- and one row more -/
def An (A : V3 → Prop) (a : V3) : V3 → Prop := fun v => A v ∨ v = a
/-- rows where e is on the border -/
def Ti (A : V3 → Prop) (e : V3) : V3 → Prop := fun a => A a ∧ dot a e = 0
/-- the side between two edges -/
def Sd (A : V3 → Prop) (x y : V3) : Prop := ∃ f, A f ∧ f ≠ O3 ∧ dot f x = 0 ∧ dot f y = 0
def Ch (F : V3 → V3 → Prop) : List V3 → Prop
  | [] => True
  | [_] => True
  | x :: y :: l => F x y ∧ Ch F (y :: l)
/-- round -/
def Cy (F : V3 → V3 → Prop) : List V3 → Prop
  | [] => True
  | x :: l => Ch F (x :: (l ++ [x]))
def T3 (s : Int) (l : List V3) : Prop := ∀ i j k, i < j → j < k → k < l.length → 0 < s * d3 (gt l i) (gt l j) (gt l k)
/-- lines, edges -/
def I1 (A : V3 → Prop) (L E : List V3) : Prop := (∀ a, A a → ∀ l ∈ L, dot a l = 0) ∧ L.length ≤ 3 ∧ Rk A (3 - L.length) ∧ ∀ x, Ce A x → Hl L E x
def I4 (A : V3 → Prop) (L E : List V3) : Prop := (∀ e ∈ E, Ce A e ∧ gcd3 e = 1 ∧ Rk (Ti A e) (2 - L.length)) ∧ (∀ l ∈ L, gcd3 l = 1) ∧ E.Pairwise (fun e f => xp e f ≠ O3)
/-- columns: line i alone has something in column J i, edges nothing -/
def IJ (L E : List V3) (J : Nat → Nat) : Prop := (∀ i, i < L.length → J i < 3 ∧ cmp3 (gt L i) (J i) ≠ 0) ∧ (∀ i k, i < L.length → k < L.length → i ≠ k → cmp3 (gt L i) (J k) = 0) ∧ ∀ e ∈ E, ∀ k, k < L.length → cmp3 e (J k) = 0
/-- without lines: the edges stand round -/
def I6 (A : V3 → Prop) (E : List V3) : Prop := (E.length = 2 → Ch (Sd A) E) ∧ (3 ≤ E.length → Cy (Sd A) E ∧ ∃ s : Int, (s = 1 ∨ s = -1) ∧ T3 s E)
def Inv_z (A : V3 → Prop) (L E : List V3) : Prop := I1 A L E ∧ I4 A L E ∧ (∃ J, IJ L E J) ∧ (L ≠ [] → E.length + L.length ≤ 3) ∧ (L = [] → I6 A E)
theorem Ce.an {A : V3 → Prop} {a x : V3} : Ce (An A a) x ↔ Ce A x ∧ 0 ≤ dot a x := ⟨fun h => ⟨fun b hb => h b (Or.inl hb), h a (Or.inr rfl)⟩, fun h b hb => hb.elim (fun q => h.1 b q) (fun q => by rw [q]; exact h.2)⟩
theorem Sd.an {A : V3 → Prop} {a x y : V3} (h : Sd A x y) : Sd (An A a) x y := by
  obtain ⟨f, h1, h2⟩ := h
  exact ⟨f, Or.inl h1, h2⟩
theorem Ch.imp {F G : V3 → V3 → Prop} (h : ∀ x y, F x y → G x y) : ∀ {l : List V3}, Ch F l → Ch G l
  | [], _ => trivial
  | [_], _ => trivial
  | _ :: _ :: _, hl => ⟨h _ _ hl.1, Ch.imp h hl.2⟩
theorem Cy.imp {F G : V3 → V3 → Prop} (h : ∀ x y, F x y → G x y) : ∀ {l : List V3}, Cy F l → Cy G l
  | [], _ => trivial
  | _ :: _, hl => Ch.imp h hl
theorem Ch.all {F : V3 → V3 → Prop} : ∀ {l : List V3}, (∀ x ∈ l, ∀ y ∈ l, F x y) → Ch F l
  | [], _ => trivial
  | [_], _ => trivial
  | x :: y :: l, h => ⟨h x List.mem_cons_self y (List.mem_cons_of_mem _ List.mem_cons_self), Ch.all fun u hu v hv => h u (List.mem_cons_of_mem _ hu) v (List.mem_cons_of_mem _ hv)⟩
theorem Cy.all {F : V3 → V3 → Prop} : ∀ {l : List V3}, (∀ x ∈ l, ∀ y ∈ l, F x y) → Cy F l
  | [], _ => trivial
  | x :: l, h => by
    refine Ch.all fun u hu v hv => ?_
    have m : ∀ w, w ∈ x :: (l ++ [x]) → w ∈ x :: l := fun w hw => by
      rcases List.mem_cons.mp hw with h | h
      · rw [h]; exact List.mem_cons_self
      · rcases List.mem_append.mp h with h | h
        · exact List.mem_cons_of_mem _ h
        · rw [List.mem_singleton.mp h]; exact List.mem_cons_self
    exact h u (m u hu) v (m v hv)
theorem Ch_split {F : V3 → V3 → Prop} {y : V3} {Y : List V3} : ∀ {X : List V3}, Ch F (X ++ y :: Y) ↔ Ch F (X ++ [y]) ∧ Ch F (y :: Y)
  | [] => ⟨fun h => ⟨trivial, h⟩, fun h => h.2⟩
  | [x] => ⟨fun h => ⟨⟨h.1, trivial⟩, h.2⟩, fun h => ⟨h.1.1, h.2⟩⟩
  | _ :: x' :: X => by
    have ih := Ch_split (F := F) (y := y) (Y := Y) (X := x' :: X)
    exact ⟨fun h => ⟨⟨h.1, (ih.mp h.2).1⟩, (ih.mp h.2).2⟩, fun h => ⟨h.1.1, ih.mpr ⟨h.1.2, h.2⟩⟩⟩
/-- a list and the same from another place on -/
theorem Cy.rot {F : V3 → V3 → Prop} {X Y : List V3} (h : Cy F (X ++ Y)) : Cy F (Y ++ X) := by
  cases X with
  | nil => rw [List.append_nil]; exact h
  | cons x X =>
    cases Y with
    | nil => rw [List.append_nil] at h; exact h
    | cons y Y =>
      have h' : Ch F ((x :: X) ++ y :: (Y ++ [x])) := by
        have : Ch F (x :: ((X ++ y :: Y) ++ [x])) := h
        rw [List.append_assoc] at this
        exact this
      rw [Ch_split] at h'
      have : Ch F ((y :: Y) ++ x :: (X ++ [y])) := Ch_split.mpr ⟨h'.2, h'.1⟩
      show Ch F (y :: ((Y ++ x :: X) ++ [y]))
      rw [List.append_assoc]
      exact this
theorem gt_app_l {X Y : List V3} {i : Nat} (h : i < X.length) : gt (X ++ Y) i = gt X i := by
  unfold gt
  rw [List.getD_eq_getElem?_getD, List.getD_eq_getElem?_getD, List.getElem?_append_left h]
theorem gt_app_r {X Y : List V3} {i : Nat} (h : X.length ≤ i) : gt (X ++ Y) i = gt Y (i - X.length) := by
  unfold gt
  rw [List.getD_eq_getElem?_getD, List.getD_eq_getElem?_getD, List.getElem?_append_right h]
theorem d3_cyc (u v w : V3) : d3 v w u = d3 u v w := by unfold d3 dot xp; grind
theorem d3_cyc' (u v w : V3) : d3 w u v = d3 u v w := by unfold d3 dot xp; grind
theorem d3_xp (u v w : V3) : d3 u v w = dot (xp u v) w := by unfold d3 dot xp; grind
theorem T3.rot {s : Int} {X Y : List V3} (h : T3 s (X ++ Y)) : T3 s (Y ++ X) := by
  intro i j k hij hjk hk
  rw [List.length_append] at hk
  have hX : ∀ i, i < X.length → gt X i = gt (X ++ Y) i := fun i hi => (gt_app_l hi).symm
  have hY : ∀ i, gt Y i = gt (X ++ Y) (X.length + i) := fun i => by rw [gt_app_r (by omega), Nat.add_sub_cancel_left]
  have hl : (X ++ Y).length = X.length + Y.length := List.length_append
  by_cases c1 : i < Y.length
  · rw [gt_app_l c1, hY]
    by_cases c2 : j < Y.length
    · rw [gt_app_l c2, hY]
      by_cases c3 : k < Y.length
      · rw [gt_app_l c3, hY]
        exact h _ _ _ (by omega) (by omega) (by omega)
      · rw [gt_app_r (i := k) (by omega), hX (k - Y.length) (by omega), ← d3_cyc']
        exact h _ _ _ (by omega) (by omega) (by omega)
    · rw [gt_app_r (i := j) (by omega), hX (j - Y.length) (by omega), gt_app_r (i := k) (by omega), hX (k - Y.length) (by omega), ← d3_cyc]
      exact h _ _ _ (by omega) (by omega) (by omega)
  · rw [gt_app_r (i := i) (by omega), hX (i - Y.length) (by omega), gt_app_r (i := j) (by omega), hX (j - Y.length) (by omega), gt_app_r (i := k) (by omega), hX (k - Y.length) (by omega)]
    exact h _ _ _ (by omega) (by omega) (by omega)
theorem T3.left {s : Int} {X Y : List V3} (h : T3 s (X ++ Y)) : T3 s X := by
  intro i j k hij hjk hk
  have := h i j k hij hjk (by rw [List.length_append]; omega)
  rw [gt_app_l (by omega), gt_app_l (by omega), gt_app_l (by omega)] at this
  exact this
/-- where a is 0 or more on no triple, every part of the list is as good -/
theorem T3.tail {s : Int} {x : V3} {l : List V3} (h : T3 s (x :: l)) : T3 s l := by
  intro i j k hij hjk hk
  exact h (i + 1) (j + 1) (k + 1) (by omega) (by omega) (by rw [List.length_cons]; omega)
theorem T3.sub {s : Int} : ∀ {l m : List V3}, List.Sublist l m → T3 s m → T3 s l := by
  intro l m hs
  induction hs with
  | slnil => exact fun h => h
  | cons a _ ih => exact fun h => ih h.tail
  | cons_cons a hs ih =>
    rename_i l m
    intro h i j k hij hjk hk
    have ht := ih h.tail
    rw [List.length_cons] at hk
    cases i with
    | succ i =>
      have q := ht i (j - 1) (k - 1) (by omega) (by omega) (by omega)
      rw [show j = (j - 1) + 1 by omega, show k = (k - 1) + 1 by omega]
      exact q
    | zero =>
      -- the two others stand in m in their order
      have key : ∀ {l m : List V3}, List.Sublist l m → ∀ p q, p < q → q < l.length → ∃ p' q', p' < q' ∧ q' < m.length ∧ gt m p' = gt l p ∧ gt m q' = gt l q := by
        intro l m hs
        induction hs with
        | slnil => intro p q _ hq; exact absurd hq (Nat.not_lt_zero _)
        | cons b _ ih =>
          intro p q hpq hq
          obtain ⟨p', q', h1, h2, h3, h4⟩ := ih p q hpq hq
          exact ⟨p' + 1, q' + 1, by omega, by rw [List.length_cons]; omega, h3, h4⟩
        | cons_cons b hs' ih =>
          rename_i l' m'
          intro p q hpq hq
          rw [List.length_cons] at hq
          cases p with
          | succ p =>
            obtain ⟨p', q', h1, h2, h3, h4⟩ := ih p (q - 1) (by omega) (by omega)
            refine ⟨p' + 1, q' + 1, by omega, by rw [List.length_cons]; omega, h3, ?_⟩
            rw [show q = (q - 1) + 1 by omega]; exact h4
          | zero =>
            have hm : gt l' (q - 1) ∈ m' := hs'.subset (gt_mem (by omega))
            obtain ⟨r, hr, hre⟩ := List.getElem_of_mem hm
            refine ⟨0, r + 1, by omega, by rw [List.length_cons]; omega, rfl, ?_⟩
            have e : gt (b :: m') (r + 1) = gt m' r := rfl
            rw [e, gt_of (List.getElem?_eq_some_iff.mpr ⟨hr, hre⟩), show q = (q - 1) + 1 by omega]; rfl
      obtain ⟨p', q', h1, h2, h3, h4⟩ := key hs (j - 1) (k - 1) (by omega) (by omega)
      have := h 0 (p' + 1) (q' + 1) (by omega) (by omega) (by rw [List.length_cons]; omega)
      have e1 : gt (a :: m) (p' + 1) = gt l (j - 1) := h3
      have e2 : gt (a :: m) (q' + 1) = gt l (k - 1) := h4
      rw [e1, e2] at this
      rw [show j = (j - 1) + 1 by omega, show k = (k - 1) + 1 by omega]
      exact this
