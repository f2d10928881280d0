/-! the pure machine is monotone, and a frame's run is closed under its steps -/
theorem pI_spec {st : List Value} {k : Int32 → List Value → Prop} (h : pI st k) : ∃ x st', st = .int x :: st' ∧ k x st' := by
  unfold pI at h; split at h
  · exact ⟨_, _, rfl, h⟩
  · cases h
theorem pL_spec {st : List Value} {k : Int64 → List Value → Prop} (h : pL st k) : ∃ x st', st = .long x :: st' ∧ k x st' := by
  unfold pL at h; split at h
  · exact ⟨_, _, rfl, h⟩
  · cases h
theorem pR_spec {st : List Value} {k : Nat → List Value → Prop} (h : pR st k) : ∃ x st', st = .ref x :: st' ∧ k x st' := by
  unfold pR at h; split at h
  · exact ⟨_, _, rfl, h⟩
  · cases h
theorem p1_spec {st : List Value} {k : Value → List Value → Prop} (h : p1 st k) : ∃ v st', st = v :: st' ∧ v.category = 1 ∧ k v st' := by
  unfold p1 at h; split at h
  · exact ⟨_, _, rfl, rfl, h⟩
  · exact ⟨_, _, rfl, rfl, h⟩
  · cases h
theorem pA_spec {st : List Value} {k : Value → List Value → Prop} (h : pA st k) : ∃ v st', st = v :: st' ∧ k v st' := by
  unfold pA at h; split at h
  · exact ⟨_, _, rfl, h⟩
  · cases h
theorem pE_spec {st : List Value} {p : Prop} (h : pE st p) : st = [] ∧ p := by
  unfold pE at h; split at h
  · exact ⟨rfl, h⟩
  · cases h
theorem pN_spec {k : List Value → List Value → Prop} : ∀ {n : Nat} {acc st : List Value}, pN n acc st k → ∃ As st', st = As.reverse ++ st' ∧ As.length = n ∧ k (As ++ acc) st'
  | 0, acc, st, h => ⟨[], st, rfl, rfl, h⟩
  | n + 1, acc, [], h => by cases h
  | n + 1, acc, v :: st, h => by
    obtain ⟨As, st', h1, h2, h3⟩ := pN_spec (n := n) (acc := v :: acc) (st := st) h
    refine ⟨As ++ [v], st', by simp [h1], by simp [h2], ?_⟩
    have : As ++ [v] ++ acc = As ++ v :: acc := by simp
    rw [this]; exact h3
theorem pI_mono {st : List Value} {k k' : Int32 → List Value → Prop} (f : ∀ x st, k x st → k' x st) (h : pI st k) : pI st k' := by
  obtain ⟨x, st', rfl, h⟩ := pI_spec h; exact f _ _ h
theorem pL_mono {st : List Value} {k k' : Int64 → List Value → Prop} (f : ∀ x st, k x st → k' x st) (h : pL st k) : pL st k' := by
  obtain ⟨x, st', rfl, h⟩ := pL_spec h; exact f _ _ h
theorem pR_mono {st : List Value} {k k' : Nat → List Value → Prop} (f : ∀ x st, k x st → k' x st) (h : pR st k) : pR st k' := by
  obtain ⟨x, st', rfl, h⟩ := pR_spec h; exact f _ _ h
theorem p1_mono {st : List Value} {k k' : Value → List Value → Prop} (f : ∀ x st, k x st → k' x st) (h : p1 st k) : p1 st k' := by
  unfold p1 at h ⊢; split at h
  · exact f _ _ h
  · exact f _ _ h
  · cases h
theorem pA_mono {st : List Value} {k k' : Value → List Value → Prop} (f : ∀ x st, k x st → k' x st) (h : pA st k) : pA st k' := by
  obtain ⟨x, st', rfl, h⟩ := pA_spec h; exact f _ _ h
theorem pE_mono {st : List Value} {p p' : Prop} (f : p → p') (h : pE st p) : pE st p' := by
  obtain ⟨rfl, h⟩ := pE_spec h; exact f h
theorem pN_mono {k k' : List Value → List Value → Prop} (f : ∀ x st, k x st → k' x st) : ∀ {n : Nat} {acc st : List Value}, pN n acc st k → pN n acc st k'
  | 0, _, _, h => f _ _ h
  | n + 1, acc, [], h => by cases h
  | n + 1, acc, v :: st, h => pN_mono f (n := n) (acc := v :: acc) (st := st) h
theorem lk_mem {α : Type} : ∀ {l : List (Nat × α)} {k : Nat} {x : α}, lk l k = some x → (k, x) ∈ l
  | [], _, _, h => by cases h
  | q :: l, k, x, h => by
    unfold lk at h
    cases hb : Nat.beq q.1 k with
    | true =>
      rw [hb] at h
      have h1 : q.1 = k := Nat.eq_of_beq_eq_true hb
      have h2 : q.2 = x := Option.some.inj h
      subst h1; subst h2
      exact List.mem_cons_self
    | false =>
      rw [hb] at h
      exact List.mem_cons_of_mem _ (lk_mem h)
theorem gI_spec {lv : LV} {i : Nat} {k : Int32 → Prop} (h : gI lv i k) : ∃ x, (i, Value.int x) ∈ lv ∧ k x := by
  unfold gI at h; split at h
  · rename_i x hx; exact ⟨x, lk_mem hx, h⟩
  · cases h
theorem gL_spec {lv : LV} {i : Nat} {k : Int64 → Prop} (h : gL lv i k) : ∃ x, (i, Value.long x) ∈ lv ∧ k x := by
  unfold gL at h; split at h
  · rename_i x hx; exact ⟨x, lk_mem hx, h⟩
  · cases h
theorem gR_spec {lv : LV} {i : Nat} {k : Nat → Prop} (h : gR lv i k) : ∃ x, (i, Value.ref x) ∈ lv ∧ k x := by
  unfold gR at h; split at h
  · rename_i x hx; exact ⟨x, lk_mem hx, h⟩
  · cases h
theorem gI_mono {lv : LV} {i : Nat} {k k' : Int32 → Prop} (f : ∀ x, k x → k' x) (h : gI lv i k) : gI lv i k' := by
  unfold gI at h ⊢; split at h
  · exact f _ h
  · cases h
theorem gL_mono {lv : LV} {i : Nat} {k k' : Int64 → Prop} (f : ∀ x, k x → k' x) (h : gL lv i k) : gL lv i k' := by
  unfold gL at h ⊢; split at h
  · exact f _ h
  · cases h
theorem gR_mono {lv : LV} {i : Nat} {k k' : Nat → Prop} (f : ∀ x, k x → k' x) (h : gR lv i k) : gR lv i k' := by
  unfold gR at h ⊢; split at h
  · exact f _ h
  · cases h
theorem bb_spec {b : Bool} {p : Prop} (h : bb b p) : b = true ∧ p := by cases b with
  | true => exact ⟨rfl, h⟩
  | false => cases h
theorem bb_mono {b : Bool} {p p' : Prop} (f : p → p') (h : bb b p) : bb b p' := by
  obtain ⟨rfl, h⟩ := bb_spec h; exact f h
theorem in1_mono : ∀ {lv : LV} {i : Nat} {v : Value} {k k' : LV → Prop} (_ : ∀ l, k l → k' l), in1 lv i v k → in1 lv i v k'
  | [], _, _, _, _, f, h => f _ h
  | q :: l, i, v, k, k', f, h => by
    unfold in1 at h ⊢
    split at h
    · exact f _ h
    · split at h
      · exact f _ h
      · split at h
        · exact in1_mono f h
        · exact in1_mono (fun l' h' => f _ h') h
theorem dr_mono {lv : LV} {i : Nat} {k k' : LV → Prop} (f : ∀ l, k l → k' l) (h : dr lv i k) : dr lv i k' := by
  cases lv with
  | nil => exact f _ h
  | cons q l =>
    revert h
    show (match Nat.beq q.1 i with
      | true => k l
      | false => k (q :: l)) → (match Nat.beq q.1 i with
      | true => k' l
      | false => k' (q :: l))
    cases Nat.beq q.1 i with
    | true => exact f _
    | false => exact f _
theorem in2_mono : ∀ {lv : LV} {i : Nat} {v : Value} {k k' : LV → Prop} (_ : ∀ l, k l → k' l), in2 lv i v k → in2 lv i v k'
  | [], _, _, _, _, f, h => f _ h
  | q :: l, i, v, k, k', f, h => by
    unfold in2 at h ⊢
    split at h
    · exact dr_mono (fun l' h' => f _ h') h
    · split at h
      · exact dr_mono (fun l' h' => f _ h') h
      · split at h
        · exact in2_mono f h
        · exact in2_mono (fun l' h' => f _ h') h
theorem rmv_mono : ∀ {lv : LV} {i : Nat} {k k' : LV → Prop} (_ : ∀ l, k l → k' l), rmv lv i k → rmv lv i k'
  | [], _, _, _, f, h => f _ h
  | q :: l, i, k, k', f, h => by
    unfold rmv at h ⊢
    split at h
    · exact f _ h
    · exact rmv_mono (fun l' h' => f _ h') h
theorem la_mono : ∀ {vs : List Value} {i : Nat} {k k' : LV → Prop} (_ : ∀ l, k l → k' l), la i vs k → la i vs k'
  | [], _, _, _, f, h => f _ h
  | v :: vs, i, k, k', f, h => by
    unfold la at h ⊢
    split at h
    · exact la_mono (fun l' h' => f _ h') h
    · exact la_mono (fun l' h' => f _ h') h
theorem icK_spec {n : Int} {k : Int32 → Prop} (h : icK n k) : k (Int32.ofInt n) := by
  unfold icK at h
  split at h <;> first | exact h | cases h
theorem icK_mono {n : Int} {k k' : Int32 → Prop} (f : ∀ x, k x → k' x) (h : icK n k) : icK n k' := by
  unfold icK at h ⊢
  split at h <;> first | exact f _ h | cases h
theorem lcK_spec {n : Nat} {k : Int64 → Prop} (h : lcK n k) : k (Int64.ofNat n) := by
  unfold lcK at h
  split at h <;> first | exact h | cases h
theorem lcK_mono {n : Nat} {k k' : Int64 → Prop} (f : ∀ x, k x → k' x) (h : lcK n k) : lcK n k' := by
  unfold lcK at h ⊢
  split at h <;> first | exact f _ h | cases h
theorem sb_spec {rc n : Nat} {k : Nat → Prop} (h : sb rc n k) : n ≤ rc ∧ k (rc - n) := by
  cases n with
  | zero => exact ⟨Nat.zero_le _, h⟩
  | succ n =>
    obtain ⟨h1, h2⟩ := bb_spec h
    exact ⟨Nat.le_of_ble_eq_true h1, h2⟩
theorem sb_mono {rc n : Nat} {k k' : Nat → Prop} (f : ∀ x, k x → k' x) (h : sb rc n k) : sb rc n k' := by
  cases n with
  | zero => exact f _ h
  | succ n => exact bb_mono (f _) h
theorem okK_mono {t : Option Nat} {v : Value} {p p' : Prop} (f : p → p') (h : okK t v p) : okK t v p' := by
  unfold okK at h ⊢
  split at h
  · exact f h
  · exact f h
  · exact ⟨h.1, f h.2⟩
  · exact f h
  · cases h
theorem sw0_mono : ∀ {ts : List Nat} {v x : Int} {k k' : Nat → Prop} (_ : ∀ t, k t → k' t), sw0 ts v x k → sw0 ts v x k'
  | [], _, _, _, _, _, _ => trivial
  | t :: ts, v, x, k, k', f, h => ⟨fun e => f _ (h.1 e), sw0_mono f h.2⟩
theorem bI_mono {c : ClassFile.Cond} {x y : Int32} {T F T' F' : Prop} (f : T → T') (g : F → F') (h : bI c x y T F) : bI c x y T' F' := by
  cases c
  · exact ⟨fun e => f (h.1 e), fun e => g (h.2 e)⟩
  · exact ⟨fun e => g (h.1 e), fun e => f (h.2 e)⟩
  · exact ⟨fun e => f (h.1 e), fun e => g (h.2 e)⟩
  · exact ⟨fun e => f (h.1 e), fun e => g (h.2 e)⟩
  · exact ⟨fun e => f (h.1 e), fun e => g (h.2 e)⟩
  · exact ⟨fun e => f (h.1 e), fun e => g (h.2 e)⟩
theorem akK_mono {t : ArrayType} {n : Nat} {k k' : Nat → va_E → Prop} (f : ∀ x y, k x y → k' x y) (h : akK t k n) : akK t k' n := by
  cases t <;> first | exact f _ _ h | exact h
theorem oK_spec {α : Type} {o : Option α} {k : α → Prop} (h : oK o k) : ∃ x, o = some x ∧ k x := by
  cases o with
  | none => cases h
  | some x => exact ⟨x, rfl, h⟩
theorem oK_mono {α : Type} {o : Option α} {k k' : α → Prop} (f : ∀ x, k x → k' x) (h : oK o k) : oK o k' := by
  cases o with
  | none => exact h
  | some x => exact f _ h
theorem oE_mono {α : Type} {o : Option α} {k k' : α → Prop} {p p' : Prop} (f : ∀ x, k x → k' x) (g : p → p') (h : oE o k p) : oE o k' p' := by
  cases o with
  | none => exact g h
  | some x => exact f _ h
theorem bE_mono {b : Bool} {p p' q q' : Prop} (f : p → p') (g : q → q') (h : bE b p q) : bE b p' q' := by
  cases b with
  | true => exact f h
  | false => exact g h
theorem rtI_spec {t : Option FieldType} {x : Int32} {p : Prop} (h : rtI t x p) : (t = some .int ∨ (t = some .boolean ∧ (x = 0 ∨ x = 1))) ∧ p := by
  unfold rtI at h; split at h
  · exact ⟨Or.inl rfl, h⟩
  · exact ⟨Or.inr ⟨rfl, h.1⟩, h.2⟩
  · cases h
theorem rtI_mono {t : Option FieldType} {x : Int32} {p p' : Prop} (f : p → p') (h : rtI t x p) : rtI t x p' := by
  unfold rtI at h ⊢; split at h
  · exact f h
  · exact ⟨h.1, f h.2⟩
  · cases h
theorem rtL_spec {t : Option FieldType} {p : Prop} (h : rtL t p) : t = some .long ∧ p := by
  unfold rtL at h; split at h
  · exact ⟨rfl, h⟩
  · cases h
theorem rtL_mono {t : Option FieldType} {p p' : Prop} (f : p → p') (h : rtL t p) : rtL t p' := by
  obtain ⟨rfl, h⟩ := rtL_spec h; exact f h
theorem rtA_spec {t : Option FieldType} {p : Prop} (h : rtA t p) : (∃ n, t = some (.object n)) ∧ p := by
  unfold rtA at h; split at h
  · exact ⟨⟨_, rfl⟩, h⟩
  · cases h
theorem rtA_mono {t : Option FieldType} {p p' : Prop} (f : p → p') (h : rtA t p) : rtA t p' := by
  obtain ⟨⟨n, rfl⟩, h⟩ := rtA_spec h; exact f h
theorem rtV_spec {t : Option FieldType} {p : Prop} (h : rtV t p) : t = none ∧ p := by
  unfold rtV at h; split at h
  · exact ⟨rfl, h⟩
  · cases h
theorem rtV_mono {t : Option FieldType} {p p' : Prop} (f : p → p') (h : rtV t p) : rtV t p' := by
  obtain ⟨rfl, h⟩ := rtV_spec h; exact f h
theorem lE_mono {α : Type} {l : List α} {p p' q q' : Prop} (f : p → p') (g : q → q') (h : lE l p q) : lE l p' q' := by
  cases l with
  | nil => exact f h
  | cons => exact g h
theorem bk_mono {mi : MI} {Q Q' : Out → PH → Prop} {K K' : Kt} (hQ : ∀ o h, Q o h → Q' o h) (hK : ∀ pc lv st h rc rs, K pc lv st h rc rs → K' pc lv st h rc rs) {pc nx : Nat} {lv : LV} {st : List Value} {rc rs : Nat} : ∀ (o : Out) (h : PH), bk mi Q K pc nx lv st rc rs o h → bk mi Q' K' pc nx lv st rc rs o h
  | .inl (some _), _, h => hK _ _ _ _ _ _ h
  | .inl none, _, h => hK _ _ _ _ _ _ h
  | .inr _, _, h => lE_mono (And.imp_right (hQ _ _)) (oK_mono fun _ => oK_mono fun _ => bb_mono (rmv_mono fun _ => hK _ _ _ _ _ _)) h
def CMono (call : Callee) : Prop := ∀ (k : Nat) (a : List Value) (h : PH) (R R' : Out → PH → Prop), (∀ o h, R o h → R' o h) → call k a h R → call k a h R'
theorem imp_mono {a b c : Prop} (f : a → b) (h : c → a) : c → b := fun x => f (h x)
set_option maxHeartbeats 4000000 in
theorem ins_mono {D : Nat} {call : Callee} {sc : Scr} {mi : MI} {Q Q' : Out → PH → Prop} {K K' : Kt} (hc : CMono call) (hQ : ∀ o h, Q o h → Q' o h) (hK : ∀ pc lv st h rc rs, K pc lv st h rc rs → K' pc lv st h rc rs) (pc : Nat) (i : Instr) (nx tg : Nat) (lv : LV) (st : List Value) (h : PH) (rc rs : Nat) :
    ins D call sc mi Q K pc i nx tg lv st h rc rs → ins D call sc mi Q' K' pc i nx tg lv st h rc rs := by
  cases i <;> first
    | exact id
    | (show ins D call sc mi Q K pc _ nx tg lv st h rc rs → ins D call sc mi Q' K' pc _ nx tg lv st h rc rs
       unfold ins
       dsimp only
       repeat' first
         | exact hK _ _ _ _ _ _
         | exact hQ _ _
         | exact id
         | refine hc _ _ _ _ _ (bk_mono hQ hK)
         | refine pI_mono fun _ _ => ?_
         | refine pL_mono fun _ _ => ?_
         | refine pR_mono fun _ _ => ?_
         | refine p1_mono fun _ _ => ?_
         | refine pA_mono fun _ _ => ?_
         | refine pN_mono fun _ _ => ?_
         | refine pE_mono ?_
         | refine gI_mono fun _ => ?_
         | refine gL_mono fun _ => ?_
         | refine gR_mono fun _ => ?_
         | refine bb_mono ?_
         | refine in1_mono fun _ => ?_
         | refine in2_mono fun _ => ?_
         | refine icK_mono fun _ => ?_
         | refine lcK_mono fun _ => ?_
         | refine sb_mono fun _ => ?_
         | refine okK_mono ?_
         | refine sw0_mono fun _ => ?_
         | refine bI_mono ?_ ?_
         | refine akK_mono fun _ _ => ?_
         | refine oK_mono fun _ => ?_
         | refine oE_mono (fun _ => ?_) ?_
         | refine bE_mono ?_ ?_
         | refine rtI_mono ?_
         | refine rtL_mono ?_
         | refine rtA_mono ?_
         | refine rtV_mono ?_
         | refine And.imp ?_ ?_
         | refine Or.imp ?_ ?_
         | refine Exists.imp fun _ => ?_
         | refine imp_mono ?_)
theorem stp_mono {D : Nat} {call : Callee} {sc : Scr} {mi : MI} {Q Q' : Out → PH → Prop} {K K' : Kt} (hc : CMono call) (hQ : ∀ o h, Q o h → Q' o h) (hK : ∀ pc lv st h rc rs, K pc lv st h rc rs → K' pc lv st h rc rs) (pc : Nat) (lv : LV) (st : List Value) (h : PH) (rc rs : Nat) :
    stp D call sc mi Q K pc lv st h rc rs → stp D call sc mi Q' K' pc lv st h rc rs := oK_mono fun _ => ins_mono hc hQ hK _ _ _ _ _ _ _ _ _
theorem Runs.fold {D : Nat} {call : Callee} {sc : Scr} {mi : MI} {Q : Out → PH → Prop} (hc : CMono call) {pc : Nat} {lv : LV} {st : List Value} {h : PH} {rc rs : Nat} (k : stp D call sc mi Q (Runs D call sc mi Q) pc lv st h rc rs) : Runs D call sc mi Q pc lv st h rc rs :=
  fun P hP => hP _ _ _ _ _ _ (stp_mono hc (fun _ _ q => q) (fun _ _ _ _ _ _ r => r P hP) _ _ _ _ _ _ k)
theorem Runs.mono {D : Nat} {call : Callee} {sc : Scr} {mi : MI} {Q Q' : Out → PH → Prop} (hc : CMono call) (hQ : ∀ o h, Q o h → Q' o h) {pc : Nat} {lv : LV} {st : List Value} {h : PH} {rc rs : Nat} (k : Runs D call sc mi Q pc lv st h rc rs) : Runs D call sc mi Q' pc lv st h rc rs :=
  fun P hP => k P fun _ _ _ _ _ _ q => hP _ _ _ _ _ _ (stp_mono hc hQ (fun _ _ _ _ _ _ r => r) _ _ _ _ _ _ q)
theorem qth_mono {b : Bool} {Q Q' : Out → PH → Prop} (hQ : ∀ o h, Q o h → Q' o h) : ∀ o h, qth b Q o h → qth b Q' o h
  | .inl _, _, q => hQ _ _ q
  | .inr _, _, q => ⟨q.1, hQ _ _ q.2⟩
theorem wpC_mono (sc : Scr) : ∀ D, CMono (wpC sc D)
  | 0 => fun _ _ _ _ _ _ h => h
  | D + 1 => fun _ _ _ _ _ hR h => oK_mono (fun _ => And.imp_right (la_mono fun _ => Runs.mono (wpC_mono sc D) (qth_mono hR))) h
/-- n steps at once -/
theorem stpN_runs {D : Nat} {call : Callee} {sc : Scr} {mi : MI} {Q : Out → PH → Prop} (hc : CMono call) : ∀ (n : Nat) {pc : Nat} {lv : LV} {st : List Value} {h : PH} {rc rs : Nat}, stpN D call sc mi Q (Runs D call sc mi Q) n pc lv st h rc rs → Runs D call sc mi Q pc lv st h rc rs
  | 0, _, _, _, _, _, _, k => k
  | n + 1, _, _, _, _, _, _, k => Runs.fold hc (stp_mono hc (fun _ _ q => q) (fun _ _ _ _ _ _ r => stpN_runs hc n r) _ _ _ _ _ _ k)
theorem Runs.go {D : Nat} {call : Callee} {sc : Scr} {mi : MI} {Q : Out → PH → Prop} (hc : CMono call) (n : Nat) {pc : Nat} {lv : LV} {st : List Value} {h : PH} {rc rs : Nat}
    (k : ∀ K : Kt, (∀ pc lv st h rc rs, Runs D call sc mi Q pc lv st h rc rs → K pc lv st h rc rs) → stpN D call sc mi Q K n pc lv st h rc rs) : Runs D call sc mi Q pc lv st h rc rs := stpN_runs hc n (k _ fun _ _ _ _ _ _ r => r)
