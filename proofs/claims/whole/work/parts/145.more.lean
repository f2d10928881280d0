/-! MORE LOCALS DO NO HARM: a loop's head may forget locals -/
theorem lk_of_mem {α : Type} : ∀ {l : List (Nat × α)} {i : Nat} {x : α}, l.Pairwise (fun a b => a.1 < b.1) → (i, x) ∈ l → lk l i = some x
  | [], _, _, _, h => absurd h List.not_mem_nil
  | q :: l, i, x, hs, h => by
    unfold lk
    rcases List.mem_cons.mp h with rfl | h
    · rw [show Nat.beq i i = true from Nat.beq_refl i]
    · have h1 := (List.pairwise_cons.mp hs).1 _ h
      have h2 : Nat.beq q.1 i = false := by
        cases hb : Nat.beq q.1 i with
        | false => rfl
        | true => have := Nat.eq_of_beq_eq_true hb; simp only at h1; omega
      rw [h2]
      exact lk_of_mem (List.pairwise_cons.mp hs).2 h
theorem in1_tot : ∀ (l : LV) (i : Nat) (v : Value), srt l → ∃ r, (∀ k : LV → Prop, in1 l i v k ↔ k r) ∧ srt r ∧ ∀ q, q ∈ r ↔ q = (i, v) ∨ (q ∈ l ∧ q.1 ≠ i ∧ ¬ (q.1 + 1 = i ∧ q.2.category = 2)) := by
  intro l i v hs
  have h1 : ∃ r, (∀ k : LV → Prop, in1 l i v k ↔ k r) := by
    clear hs
    induction l with
    | nil => exact ⟨_, fun k => Iff.rfl⟩
    | cons q0 l ih =>
      cases hb : Nat.beq q0.1 i with
      | true => exact ⟨(i, v) :: l, fun k => by unfold in1; rw [hb]⟩
      | false =>
        cases hlt : Nat.blt i q0.1 with
        | true => exact ⟨(i, v) :: q0 :: l, fun k => by unfold in1; rw [hb]; simp only [hlt]⟩
        | false =>
          obtain ⟨r, hr⟩ := ih
          cases hd : Nat.beq (q0.1 + 1) i && isL q0.2 with
          | true => exact ⟨r, fun k => by unfold in1; rw [hb]; simp only [hlt, hd]; exact hr k⟩
          | false => exact ⟨q0 :: r, fun k => by unfold in1; rw [hb]; simp only [hlt, hd]; exact hr _⟩
  obtain ⟨r, hr⟩ := h1
  obtain ⟨r', hr', hs', hm'⟩ := in1_spec (k := fun l' => l' = r) hs ((hr _).mpr rfl)
  subst hr'
  refine ⟨_, hr, hs', fun q => ⟨hm' q, ?_⟩⟩
  have hc : in1 l i v (fun r => ∀ q, (q = (i, v) ∨ (q ∈ l ∧ q.1 ≠ i ∧ ¬ (q.1 + 1 = i ∧ q.2.category = 2))) → q ∈ r) := by
    clear hr hs' hm'
    have gen : ∀ (l : LV), srt l → ∀ (k : LV → Prop), (∀ r, (∀ q, (q = (i, v) ∨ (q ∈ l ∧ q.1 ≠ i ∧ ¬ (q.1 + 1 = i ∧ q.2.category = 2))) → q ∈ r) → k r) → in1 l i v k := by
      intro l
      induction l with
      | nil => exact fun _ k hk => hk _ fun q hq => hq.elim (fun e => by rw [e]; exact List.mem_singleton.mpr rfl) (fun e => absurd e.1 List.not_mem_nil)
      | cons q0 l ih =>
        intro hs k hk
        have hs2 : srt l := (List.pairwise_cons.mp hs).2
        unfold in1
        cases hb : Nat.beq q0.1 i with
        | true =>
          have e0 : q0.1 = i := Nat.eq_of_beq_eq_true hb
          refine hk _ fun q hq => ?_
          rcases hq with rfl | ⟨h1, h2, -⟩
          · exact List.mem_cons_self
          · rcases List.mem_cons.mp h1 with rfl | h1
            · exact absurd e0 h2
            · exact List.mem_cons_of_mem _ h1
        | false =>
          cases hlt : Nat.blt i q0.1 with
          | true =>
            refine hk _ fun q hq => ?_
            rcases hq with rfl | ⟨h1, -, -⟩
            · exact List.mem_cons_self
            · exact List.mem_cons_of_mem _ h1
          | false =>
            cases hd : Nat.beq (q0.1 + 1) i && isL q0.2 with
            | true =>
              simp only
              refine ih hs2 k fun r hr => hk r fun q hq => hr q ?_
              rcases hq with h | ⟨h1, h2, h3⟩
              · exact Or.inl h
              · rcases List.mem_cons.mp h1 with rfl | h1
                · rw [Bool.and_eq_true] at hd
                  refine absurd ⟨Nat.eq_of_beq_eq_true hd.1, ?_⟩ h3
                  have := hd.2
                  rw [isL_cat] at this
                  exact eq_of_beq this
                · exact Or.inr ⟨h1, h2, h3⟩
            | false =>
              simp only
              refine ih hs2 _ fun r hr => hk (q0 :: r) fun q hq => ?_
              rcases hq with h | ⟨h1, h2, h3⟩
              · exact List.mem_cons_of_mem _ (hr q (Or.inl h))
              · rcases List.mem_cons.mp h1 with rfl | h1
                · exact List.mem_cons_self
                · exact List.mem_cons_of_mem _ (hr q (Or.inr ⟨h1, h2, h3⟩))
    exact gen l hs _ fun r hr => hr
  exact (hr _).mp hc q
/-- for values of two words only the one direction is needed: what is left is among the old ones -/
theorem in2_tot : ∀ (l : LV) (i : Nat) (v : Value), srt l → ∃ r, (∀ k : LV → Prop, in2 l i v k ↔ k r) ∧ srt r ∧ ∀ q, q ∈ r ↔ q = (i, v) ∨ (q ∈ l ∧ q.1 ≠ i ∧ q.1 ≠ i + 1 ∧ ¬ (q.1 + 1 = i ∧ q.2.category = 2)) := by
  have drt : ∀ (l : LV) (i : Nat), ∃ r, (∀ k : LV → Prop, dr l i k ↔ k r) ∧ ∀ q ∈ l, q.1 ≠ i → q ∈ r := by
    intro l i
    cases l with
    | nil => exact ⟨[], fun k => Iff.rfl, fun q hq => absurd hq List.not_mem_nil⟩
    | cons q0 l =>
      cases hb : Nat.beq q0.1 i with
      | true =>
        refine ⟨l, fun k => by unfold dr; simp only [hb], fun q hq hne => ?_⟩
        rcases List.mem_cons.mp hq with rfl | h
        · exact absurd (Nat.eq_of_beq_eq_true hb) hne
        · exact h
      | false => exact ⟨q0 :: l, fun k => by unfold dr; simp only [hb], fun q hq _ => hq⟩
  intro l i v hs
  have h1 : ∃ r, (∀ k : LV → Prop, in2 l i v k ↔ k r) ∧ ∀ q, (q = (i, v) ∨ (q ∈ l ∧ q.1 ≠ i ∧ q.1 ≠ i + 1 ∧ ¬ (q.1 + 1 = i ∧ q.2.category = 2))) → q ∈ r := by
    clear hs
    induction l with
    | nil => exact ⟨_, fun k => Iff.rfl, fun q hq => hq.elim (fun e => by rw [e]; exact List.mem_singleton.mpr rfl) (fun e => absurd e.1 List.not_mem_nil)⟩
    | cons q0 l ih =>
      cases hb : Nat.beq q0.1 i with
      | true =>
        obtain ⟨r, hr, hm⟩ := drt l (i + 1)
        refine ⟨(i, v) :: r, fun k => by unfold in2; rw [hb]; exact hr _, fun q hq => ?_⟩
        rcases hq with rfl | ⟨h1, h2, h3, -⟩
        · exact List.mem_cons_self
        · rcases List.mem_cons.mp h1 with rfl | h1
          · exact absurd (Nat.eq_of_beq_eq_true hb) h2
          · exact List.mem_cons_of_mem _ (hm q h1 h3)
      | false =>
        cases hlt : Nat.blt i q0.1 with
        | true =>
          obtain ⟨r, hr, hm⟩ := drt (q0 :: l) (i + 1)
          refine ⟨(i, v) :: r, fun k => by unfold in2; rw [hb]; simp only [hlt]; exact hr _, fun q hq => ?_⟩
          rcases hq with rfl | ⟨h1, h2, h3, -⟩
          · exact List.mem_cons_self
          · exact List.mem_cons_of_mem _ (hm q h1 h3)
        | false =>
          obtain ⟨r, hr, hm⟩ := ih
          cases hd : Nat.beq (q0.1 + 1) i && isL q0.2 with
          | true =>
            refine ⟨r, fun k => by unfold in2; rw [hb]; simp only [hlt, hd]; exact hr k, fun q hq => hm q ?_⟩
            rcases hq with h | ⟨h1, h2, h3, h4⟩
            · exact Or.inl h
            · rcases List.mem_cons.mp h1 with rfl | h1
              · rw [Bool.and_eq_true] at hd
                refine absurd ⟨Nat.eq_of_beq_eq_true hd.1, ?_⟩ h4
                have := hd.2
                rw [isL_cat] at this
                exact eq_of_beq this
              · exact Or.inr ⟨h1, h2, h3, h4⟩
          | false =>
            refine ⟨q0 :: r, fun k => by unfold in2; rw [hb]; simp only [hlt, hd]; exact hr _, fun q hq => ?_⟩
            rcases hq with h | ⟨h1, h2, h3, h4⟩
            · exact List.mem_cons_of_mem _ (hm q (Or.inl h))
            · rcases List.mem_cons.mp h1 with rfl | h1
              · exact List.mem_cons_self
              · exact List.mem_cons_of_mem _ (hm q (Or.inr ⟨h1, h2, h3, h4⟩))
  obtain ⟨r, hr, hm⟩ := h1
  obtain ⟨r', hr', hs', hm'⟩ := in2_spec (k := fun l' => l' = r) hs ((hr _).mpr rfl)
  subst hr'
  exact ⟨_, hr, hs', fun q => ⟨hm' q, hm q⟩⟩
/-- l' knows all that l knows -/
def sbl (mi : MI) (l l' : LV) : Prop := srt l ∧ srt l' ∧ (∀ q ∈ l, q ∈ l') ∧ ∀ q ∈ l', q ∈ l ∨ (mAl mi = false ∧ mHh mi = []) ∨ ∃ x, q.2 = .int x
theorem sbl.lk {mi : MI} {l l' : LV} (h : sbl mi l l') {i : Nat} {v : Value} (hv : lk l i = some v) : lk l' i = some v := lk_of_mem h.2.1 (h.2.2.1 _ (lk_mem hv))
theorem gI_more {mi : MI} {l l' : LV} (h : sbl mi l l') {i : Nat} {k k' : Int32 → Prop} (f : ∀ x, k x → k' x) (hg : gI l i k) : gI l' i k' := by
  obtain ⟨x, hx, hk⟩ := gI_spec hg
  unfold gI
  rw [lk_of_mem h.2.1 (h.2.2.1 _ hx)]
  exact f _ hk
theorem gL_more {mi : MI} {l l' : LV} (h : sbl mi l l') {i : Nat} {k k' : Int64 → Prop} (f : ∀ x, k x → k' x) (hg : gL l i k) : gL l' i k' := by
  obtain ⟨x, hx, hk⟩ := gL_spec hg
  unfold gL
  rw [lk_of_mem h.2.1 (h.2.2.1 _ hx)]
  exact f _ hk
theorem gR_more {mi : MI} {l l' : LV} (h : sbl mi l l') {i : Nat} {k k' : Nat → Prop} (f : ∀ x, k x → k' x) (hg : gR l i k) : gR l' i k' := by
  obtain ⟨x, hx, hk⟩ := gR_spec hg
  unfold gR
  rw [lk_of_mem h.2.1 (h.2.2.1 _ hx)]
  exact f _ hk
theorem in1_more {mi : MI} {l l' : LV} (h : sbl mi l l') {i : Nat} {v : Value} {k k' : LV → Prop} (f : ∀ a a', sbl mi a a' → k a → k' a') (hg : in1 l i v k) : in1 l' i v k' := by
  obtain ⟨r, hr, hs, hm⟩ := in1_tot l i v h.1
  obtain ⟨r', hr', hs', hm'⟩ := in1_tot l' i v h.2.1
  refine (hr' _).mpr (f r r' ⟨hs, hs', fun q hq => ?_, fun q hq => ?_⟩ ((hr _).mp hg))
  · exact (hm' q).mpr (((hm q).mp hq).imp id (fun e => ⟨h.2.2.1 q e.1, e.2⟩))
  · rcases (hm' q).mp hq with e | ⟨e1, e2⟩
    · exact Or.inl ((hm q).mpr (Or.inl e))
    · exact (h.2.2.2 q e1).imp (fun z => (hm q).mpr (Or.inr ⟨z, e2⟩)) id
theorem in2_more {mi : MI} {l l' : LV} (h : sbl mi l l') {i : Nat} {v : Value} {k k' : LV → Prop} (f : ∀ a a', sbl mi a a' → k a → k' a') (hg : in2 l i v k) : in2 l' i v k' := by
  obtain ⟨r, hr, hs, hm⟩ := in2_tot l i v h.1
  obtain ⟨r', hr', hs', hm'⟩ := in2_tot l' i v h.2.1
  refine (hr' _).mpr (f r r' ⟨hs, hs', fun q hq => ?_, fun q hq => ?_⟩ ((hr _).mp hg))
  · exact (hm' q).mpr (((hm q).mp hq).imp id (fun e => ⟨h.2.2.1 q e.1, e.2⟩))
  · rcases (hm' q).mp hq with e | ⟨e1, e2⟩
    · exact Or.inl ((hm q).mpr (Or.inl e))
    · exact (h.2.2.2 q e1).imp (fun z => (hm q).mpr (Or.inr ⟨z, e2⟩)) id
theorem vld_more {mi : MI} {l l' : LV} (hs : sbl mi l l') {h : PH} {st : List Value} (hal : mAl mi = true) (hv : vld h l st = true) : vld h l' st = true := by
  obtain ⟨v1, v2, v3, v4⟩ := vld_spec hv
  unfold vld
  rw [v3, v4, show l'.all (fun q => vv h.length q.2) = true from List.all_eq_true.mpr fun q hq => ?_]
  · rw [show Nat.blt h.length 1000 = true from Nat.ble_eq_true_of_le v1]; rfl
  · rcases hs.2.2.2 q hq with e | ⟨e, -⟩ | ⟨x, e⟩
    · exact List.all_eq_true.mp v2 q e
    · rw [hal] at e; cases e
    · rw [e]; rfl
theorem bk_more {mi : MI} {l l' : LV} (hs : sbl mi l l') (hh : mHh mi = []) {Q : Out → PH → Prop} {K K' : Kt} (hK : ∀ pc st h rc rs, K pc l st h rc rs → K' pc l' st h rc rs) {pc nx : Nat} {st : List Value} {rc rs : Nat} : ∀ (o : Out) (h : PH), bk mi Q K pc nx l st rc rs o h → bk mi Q K' pc nx l' st rc rs o h
  | .inl (some _), _, h => hK _ _ _ _ _ h
  | .inl none, _, h => hK _ _ _ _ _ h
  | .inr E, h', h => by
    have h : lE (mHh mi) (mTh mi = true ∧ Q (.inr E) h') _ := h
    show lE (mHh mi) (mTh mi = true ∧ Q (.inr E) h') _
    rw [hh] at h ⊢
    exact h
set_option maxHeartbeats 4000000 in
theorem ins_more {D : Nat} {call : Callee} {sc : Scr} {mi : MI} {Q : Out → PH → Prop} {K K' : Kt} (hc : CMono call) (hh : mHh mi = []) {lv lv' : LV} (hs : sbl mi lv lv') (hK : ∀ pc l l' st h rc rs, sbl mi l l' → K pc l st h rc rs → K' pc l' st h rc rs) (pc : Nat) (i : Instr) (nx tg : Nat) (st : List Value) (h : PH) (rc rs : Nat) :
    ins D call sc mi Q K pc i nx tg lv st h rc rs → ins D call sc mi Q K' pc i nx tg lv' st h rc rs := by
  have hK0 : ∀ pc st h rc rs, K pc lv st h rc rs → K' pc lv' st h rc rs := fun pc st h rc rs => hK pc lv lv' st h rc rs hs
  have hvl : ∀ (h : PH) (st : List Value) (A A' : Prop), (A → A') → vld h lv st = true ∧ bb (mAl mi) A → vld h lv' st = true ∧ bb (mAl mi) A' := fun h st A A' f q => ⟨vld_more hs (bb_spec q.2).1 q.1, bb_mono f q.2⟩
  cases i <;> first
    | exact id
    | (show ins D call sc mi Q K pc _ nx tg lv st h rc rs → ins D call sc mi Q K' pc _ nx tg lv' st h rc rs
       unfold ins
       dsimp only
       repeat' first
         | exact hK0 _ _ _ _ _
         | exact hK _ _ _ _ _ _ _ (by assumption)
         | exact id
         | refine hc _ _ _ _ _ (bk_more hs hh hK0)
         | refine hvl _ _ _ _ ?_
         | refine pI_mono fun _ _ => ?_
         | refine pL_mono fun _ _ => ?_
         | refine pR_mono fun _ _ => ?_
         | refine p1_mono fun _ _ => ?_
         | refine pA_mono fun _ _ => ?_
         | refine pN_mono fun _ _ => ?_
         | refine pE_mono ?_
         | refine gI_more hs fun _ => ?_
         | refine gL_more hs fun _ => ?_
         | refine gR_more hs fun _ => ?_
         | refine bb_mono ?_
         | refine in1_more hs fun _ _ _ => ?_
         | refine in2_more hs fun _ _ _ => ?_
         | refine icK_mono fun _ => ?_
         | refine lcK_mono fun _ => ?_
         | refine sb_mono fun _ => ?_
         | refine okK_mono ?_
         | refine sw0_mono fun _ => ?_
         | refine bI_mono ?_ ?_
         | refine akK_mono fun _ _ => ?_
         | refine oK_mono fun _ => ?_
         | refine oE_mono (fun _ => ?_) ?_
         | refine bE_mono ?_ ?_
         | refine rtI_mono ?_
         | refine rtL_mono ?_
         | refine rtA_mono ?_
         | refine rtV_mono ?_
         | (refine fun q => ⟨vld_more hs (bb_spec q.2.2).1 q.1, q.2.1, bb_mono ?_ q.2.2⟩)
         | (refine fun q => ⟨q.1, vld_more hs ((Bool.and_eq_true _ _).mp ((Bool.and_eq_true _ _).mp ((Bool.and_eq_true _ _).mp (bb_spec q.2.2).1).1).1).1 q.2.1, bb_mono ?_ q.2.2⟩)
         | refine And.imp ?_ ?_
         | refine Or.imp ?_ ?_
         | refine Exists.imp fun _ => ?_
         | refine imp_mono ?_)
theorem Runs.more {D : Nat} {call : Callee} {sc : Scr} {mi : MI} {Q : Out → PH → Prop} (hc : CMono call) (hh : mHh mi = []) {pc : Nat} {lv lv' : LV} {st : List Value} {h : PH} {rc rs : Nat} (k : Runs D call sc mi Q pc lv st h rc rs) (hs : sbl mi lv lv') : Runs D call sc mi Q pc lv' st h rc rs := by
  refine k (fun pc lv st h rc rs => ∀ lv', sbl mi lv lv' → Runs D call sc mi Q pc lv' st h rc rs) ?_ lv' hs
  intro pc lv st h rc rs hstp lv' hs
  refine Runs.fold hc ?_
  exact oK_mono (fun q => ins_more hc hh hs (fun pc l l' st h rc rs hsb hk => hk l' hsb) _ _ _ _ _ _ _ _) hstp
