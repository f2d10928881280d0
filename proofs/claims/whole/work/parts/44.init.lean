/-! MAKING THE DESK -/
def VH (h : PH) : Prop := h.length < 900 ∧ ∀ e ∈ h, ve h.length e = true
theorem vv_mono {n m : Nat} (hnm : n ≤ m) {v : Value} (h : vv n v = true) : vv m v = true := by
  unfold vv at h ⊢
  split at h
  · rename_i i
    rw [Bool.or_eq_true] at h ⊢
    rcases h with h | h
    · exact Or.inl (Nat.ble_eq_true_of_le (Nat.le_trans (Nat.le_of_ble_eq_true h) hnm))
    · exact Or.inr h
  · rfl
theorem ve_mono {n m : Nat} (hnm : n ≤ m) {e : va_E} (h : ve n e = true) : ve m e = true := by
  unfold ve at h ⊢
  split at h
  · rw [List.all_eq_true] at h ⊢
    exact fun v hv => vv_mono hnm (h v hv)
  · rw [List.all_eq_true] at h ⊢
    intro j hj
    have := h j hj
    split at this
    · rename_i i _
      rw [Bool.or_eq_true] at this ⊢
      rcases this with h | h
      · exact Or.inl (Nat.ble_eq_true_of_le (Nat.le_trans (Nat.le_of_ble_eq_true h) hnm))
      · exact Or.inr h
    · rfl
  · rfl
theorem VH.push {h : PH} {x : va_E} (hv : VH h) (hl : h.length < 899) (hx : ve (h.length + 1) x = true) : VH (h ++ [x]) := by
  refine ⟨by rw [List.length_append]; exact Nat.succ_lt_succ hl, fun e he => ?_⟩
  rw [List.length_append]
  rcases List.mem_append.mp he with h1 | h1
  · exact ve_mono (Nat.le_add_right _ _) (hv.2 e h1)
  · rw [List.mem_singleton.mp h1]; exact hx
theorem VH.set {h : PH} {i : Nat} {x : va_E} (hv : VH h) (hx : ve h.length x = true) : VH (h.set i x) := by
  refine ⟨by rw [List.length_set]; exact hv.1, fun e he => ?_⟩
  rw [List.length_set]
  rcases List.mem_or_eq_of_mem_set he with h1 | h1
  · exact hv.2 e h1
  · rw [h1]; exact hx
theorem vld_of {h : PH} (hv : VH h) {lv : LV} {st : List Value} (h1 : lv.all (fun q => vv h.length q.2) = true) (h2 : st.all (vv h.length) = true) : vld h lv st = true := by
  unfold vld
  rw [h1, h2, show Nat.blt h.length 1000 = true from Nat.ble_eq_true_of_le (by have := hv.1; omega), show h.all (ve h.length) = true from List.all_eq_true.mpr hv.2]; rfl
theorem vvR {n r : Nat} (h : r < n) : vv n (.ref r) = true := by
  show (Nat.blt r n || Nat.beq r SID) = true
  rw [show Nat.blt r n = true from Nat.ble_eq_true_of_le h]; rfl
theorem vvI {n : Nat} {x : Int32} : vv n (.int x) = true := rfl
theorem vvN {n : Nat} : vv n .null = true := rfl
theorem al1 {α : Type} {p : α → Bool} {x : α} {l : List α} (h : p x = true) (hl : l.all p = true) : (x :: l).all p = true := by rw [List.all_cons, h, hl]; rfl
theorem gx {h l : PH} {r : Nat} {x : va_E} (hr : h[r]? = some x) : (h ++ l)[r]? = some x := by
  obtain ⟨h1, h2⟩ := List.getElem?_eq_some_iff.mp hr
  rw [List.getElem?_append_left h1]; exact hr
theorem gl {h : PH} {r : Nat} {x : va_E} (hr : h[r]? = some x) : r < h.length := (List.getElem?_eq_some_iff.mp hr).1
theorem gn {h : PH} {x : va_E} : (h ++ [x])[h.length]? = some x := List.getElem?_concat_length
theorem gsS {h : PH} {r : Nat} {x : va_E} (hr : r < h.length) : (h.set r x)[r]? = some x := List.getElem?_set_self hr
theorem gsN {h : PH} {r c : Nat} {x y : va_E} (hn : c ≠ r) (hr : h[r]? = some y) : (h.set c x)[r]? = some y := by rw [List.getElem?_set_ne hn]; exact hr
def aL (N : Nat) : va_E := .inl (1, 3 * N, .inr (.inl (fun _ => 0)))
def mkRow (h : PH) (r N : Nat) : PH := (h ++ [aL N]).set r (.inr (1, [.ref h.length, .int 0]))
def newRow (h : PH) (N : Nat) : PH := mkRow (h ++ [.inr (1, [.null, .int 0])]) h.length N
section INIT
variable {sc : Scr} {d : Nat} {h : PH} {Q : Out → PH → Prop}
theorem k_X1 {r N : Nat} (hv : VH h) (hr : h[r]? = some (.inr (1, [.null, .int 0]))) (hn : 0 < N) (hN : N ≤ 48) (hQ : Q (.inl none) (mkRow h r N)) : wpC sc (d + 1) 18 [.ref r, .int (nI N)] h Q := by
  have hl := gl hr
  have q1 : ([(0, .ref r), (1, .int (nI N))] : LV).all (fun q => vv h.length q.2) = true := al1 (vvR hl) (al1 vvI rfl)
  have q2 : ([.ref r] : List Value).all (vv h.length) = true := al1 (vvR hl) rfl
  refine enter rfl rfl (fun call hc => go hc 5 (fun K hK => ?_))
  conv => whnf
  refine ⟨Nat.le_of_ble_eq_true rfl, ?_⟩
  conv => whnf
  refine ⟨fun c_ => absurd c_ (nI_nle hn (by omega)), fun c_ => ?_⟩
  conv => whnf
  refine hK _ _ _ _ _ _ (go hc 4 (fun K hK => ?_))
  conv => whnf
  refine hK _ _ _ _ _ _ (go hc 3 (fun K hK => ?_))
  conv => whnf
  refine ⟨3 * N, by rw [show (3 : Int32) = nI 3 from rfl, pk_mul], by omega, vld_of hv q1 q2, ?_⟩
  conv => whnf
  refine ⟨show 3 * N ≤ 144 by omega, ?_⟩
  conv => whnf
  refine ⟨_, gx hr, Nat.le_of_ble_eq_true rfl, ?_⟩
  conv => whnf
  exact hQ
theorem newRow_len (h : PH) (N : Nat) : (newRow h N).length = h.length + 2 := by
  unfold newRow mkRow
  rw [List.length_set, List.length_append, List.length_append]; rfl
theorem newRow_get {h : PH} {N c : Nat} (hc : c < h.length) : (newRow h N)[c]? = h[c]? := by
  unfold newRow mkRow
  rw [List.getElem?_set_ne (by omega), List.getElem?_append_left (by rw [List.length_append]; exact Nat.lt_succ_of_lt hc), List.getElem?_append_left hc]
theorem VH.row {N : Nat} (hv : VH h) (hl : h.length < 800) : VH (newRow h N) := by
  unfold newRow mkRow
  refine VH.set (VH.push (VH.push hv (by omega) rfl) (by rw [List.length_append]; exact Nat.lt_trans (Nat.succ_lt_succ hl) (by decide)) rfl) ?_
  refine al1 (vvR ?_) (al1 vvI rfl)
  rw [List.length_append (bs := [aL N])]
  exact Nat.lt_succ_self _
def mkCone (h : PH) (c : Nat) (b : Int32) (s : Nat) : PH :=
  ((newRow (((newRow ((h.set c (.inr (0, [.int b, .null, .null, .null]))).set c (.inr (0, [.int b, .null, .null, .ref s]))) 3)).set c (.inr (0, [.int b, .ref h.length, .null, .ref s]))) 48)).set c (.inr (0, [.int b, .ref h.length, .ref (h.length + 2), .ref s]))
theorem mkCone_len (h : PH) (c : Nat) (b : Int32) (s : Nat) : (mkCone h c b s).length = h.length + 4 := by
  unfold mkCone
  rw [List.length_set, newRow_len, List.length_set, newRow_len, List.length_set, List.length_set]
theorem mkCone_get {h : PH} {c r : Nat} {b : Int32} {s : Nat} (hr : r < h.length) (hn : c ≠ r) : (mkCone h c b s)[r]? = h[r]? := by
  unfold mkCone
  rw [List.getElem?_set_ne hn, newRow_get (by rw [List.length_set, newRow_len, List.length_set, List.length_set]; omega), List.getElem?_set_ne hn, newRow_get (by rw [List.length_set, List.length_set]; exact hr), List.getElem?_set_ne hn, List.getElem?_set_ne hn]
theorem VH.cone (hv : VH h) (hl : h.length < 700) {c s : Nat} {b : Int32} (hs : s < h.length) : VH (mkCone h c b s) := by
  have z1 : VH ((h.set c (.inr (0, [.int b, .null, .null, .null]))).set c (.inr (0, [.int b, .null, .null, .ref s]))) := VH.set (VH.set hv (al1 vvI rfl)) (al1 vvI (al1 rfl (al1 rfl (al1 (vvR (by rw [List.length_set]; exact hs)) rfl))))
  unfold mkCone
  have z2 : VH ((newRow ((h.set c (.inr (0, [.int b, .null, .null, .null]))).set c (.inr (0, [.int b, .null, .null, .ref s]))) 3).set c (.inr (0, [.int b, .ref h.length, .null, .ref s]))) := by
    refine VH.set (VH.row z1 (by rw [List.length_set, List.length_set]; omega)) (al1 vvI (al1 (vvR ?_) (al1 rfl (al1 (vvR ?_) rfl))))
    · rw [newRow_len, List.length_set, List.length_set]; omega
    · rw [newRow_len, List.length_set, List.length_set]; omega
  refine VH.set (VH.row z2 (by rw [List.length_set, newRow_len, List.length_set, List.length_set]; omega)) (al1 vvI (al1 (vvR ?_) (al1 (vvR ?_) (al1 (vvR ?_) rfl))))
  · rw [newRow_len, List.length_set, newRow_len, List.length_set, List.length_set]; omega
  · rw [newRow_len, List.length_set, newRow_len, List.length_set, List.length_set]; omega
  · rw [newRow_len, List.length_set, newRow_len, List.length_set, List.length_set]; omega
/-- new Rows and its start, in one -/
theorem k_row {call : Callee} (hc : call = wpC sc (d + 1)) {N : Nat} (hv : VH h) (hl : h.length < 700) (hn : 0 < N) (hN : N ≤ 48) (hQ : Q (.inl none) (newRow h N)) : call 18 [.ref h.length, .int (nI N)] (h ++ [.inr (1, [.null, .int 0])]) Q :=
  callee hc (k_X1 (VH.push hv (by omega) rfl) gn hn hN hQ)
theorem vl2 {h : PH} (hv : VH h) {lv : LV} {st : List Value} (h1 : lv.all (fun q => vv h.length q.2) = true) (h2 : st.all (vv (h.length + 1)) = true) {x : va_E} (hl : h.length < 700) (hx : ve (h.length + 1) x = true) : vld (h ++ [x]) lv st = true := by
  refine vld_of (VH.push hv (by omega) hx) ?_ ?_
  · rw [List.all_eq_true] at h1 ⊢
    exact fun q hq => vv_mono (by rw [List.length_append]; exact Nat.le_add_right _ _) (h1 q hq)
  · rw [List.length_append]; exact h2
theorem k_X0 {c s : Nat} {b : Int32} (hv : VH h) (hl : h.length < 600) (hr : h[c]? = some (.inr (0, [.int 0, .null, .null, .null]))) (hs : s < h.length) (hb : b = 0 ∨ b = 1) (hQ : Q (.inl none) (mkCone h c b s)) : wpC sc (d + 2) 0 [.ref c, .int b, .ref s] h Q := by
  have hcl := gl hr
  generalize e2 : ((h.set c (.inr (0, [.int b, .null, .null, .null]))).set c (.inr (0, [.int b, .null, .null, .ref s])) : PH) = h2
  have l2 : h2.length = h.length := by rw [← e2, List.length_set, List.length_set]
  have z2 : VH h2 := by rw [← e2]; exact VH.set (VH.set hv (al1 vvI rfl)) (al1 vvI (al1 rfl (al1 rfl (al1 (vvR (by rw [List.length_set]; exact hs)) rfl))))
  have g2 : h2[c]? = some (.inr (0, [.int b, .null, .null, .ref s])) := by rw [← e2]; exact gsS (by rw [List.length_set]; exact hcl)
  generalize e4 : ((newRow h2 3).set c (.inr (0, [.int b, .ref h2.length, .null, .ref s])) : PH) = h4
  have l4 : h4.length = h.length + 2 := by rw [← e4, List.length_set, newRow_len, l2]
  have z4 : VH h4 := by
    rw [← e4]
    refine VH.set (VH.row z2 (by omega)) (al1 vvI (al1 (vvR ?_) (al1 rfl (al1 (vvR ?_) rfl))))
    · rw [newRow_len]; omega
    · rw [newRow_len]; omega
  have g4 : h4[c]? = some (.inr (0, [.int b, .ref h2.length, .null, .ref s])) := by rw [← e4]; exact gsS (by rw [newRow_len]; omega)
  have g3 : (newRow h2 3)[c]? = some (.inr (0, [.int b, .null, .null, .ref s])) := by rw [newRow_get (by omega)]; exact g2
  have g5 : (newRow h4 48)[c]? = some (.inr (0, [.int b, .ref h2.length, .null, .ref s])) := by rw [newRow_get (by omega)]; exact g4
  have hQ' : Q (.inl none) ((newRow h4 48).set c (.inr (0, [.int b, .ref h2.length, .ref h4.length, .ref s]))) := by rw [l4, ← e4, l2, ← e2]; exact hQ
  have q2 : ([(0, .ref c), (1, .int b), (2, .ref s)] : LV).all (fun q => vv h2.length q.2) = true := al1 (vvR (by omega)) (al1 vvI (al1 (vvR (by omega)) rfl))
  have q4 : ([(0, .ref c), (1, .int b), (2, .ref s)] : LV).all (fun q => vv h4.length q.2) = true := al1 (vvR (by omega)) (al1 vvI (al1 (vvR (by omega)) rfl))
  refine enter rfl rfl (fun call hc => go hc 21 (fun K hK => ?_))
  conv => whnf
  refine ⟨Nat.le_of_ble_eq_true rfl, ?_⟩
  conv => whnf
  refine ⟨hb, _, hr, Nat.le_of_ble_eq_true rfl, ?_⟩
  conv => whnf
  refine ⟨_, gsS hcl, Nat.le_of_ble_eq_true rfl, ?_⟩
  change stpN _ _ _ _ _ _ _ _ _ _ ((h.set c (.inr (0, [.int b, .null, .null, .null]))).set c (.inr (0, [.int b, .null, .null, .ref s]))) _ _
  rw [e2]
  conv => whnf
  refine ⟨vld_of z2 q2 (al1 (vvR (by omega)) rfl), ?_⟩
  conv => whnf
  refine ⟨Nat.le_of_ble_eq_true rfl, vl2 z2 q2 (al1 (vvR (by omega)) (al1 (vvR (by omega)) rfl)) (by omega) rfl, ?_⟩
  conv => whnf
  refine k_row (N := 3) hc z2 (by omega) (by decide) (by decide) ?_
  conv => whnf
  refine ⟨_, g3, Nat.le_of_ble_eq_true rfl, ?_⟩
  change stpN _ _ _ _ _ _ _ _ _ _ ((newRow h2 3).set c (.inr (0, [.int b, .ref h2.length, .null, .ref s]))) _ _
  rw [e4]
  conv => whnf
  refine ⟨vld_of z4 q4 (al1 (vvR (by omega)) rfl), ?_⟩
  conv => whnf
  refine ⟨Nat.le_of_ble_eq_true rfl, vl2 z4 q4 (al1 (vvR (by omega)) (al1 (vvR (by omega)) rfl)) (by omega) rfl, ?_⟩
  conv => whnf
  refine k_row (N := 48) hc z4 (by omega) (by decide) (by decide) ?_
  conv => whnf
  refine ⟨_, g5, Nat.le_of_ble_eq_true rfl, ?_⟩
  conv => whnf
  exact hQ'
def newCone (h : PH) (b : Int32) (s : Nat) : PH := mkCone (h ++ [.inr (0, [.int 0, .null, .null, .null])]) h.length b s
def mkShape (h : PH) (t s : Nat) : PH := (newCone ((newCone h 0 s).set t (.inr (2, [.ref h.length, .null]))) 1 s).set t (.inr (2, [.ref h.length, .ref (h.length + 5)]))
theorem newCone_len (h : PH) (b : Int32) (s : Nat) : (newCone h b s).length = h.length + 5 := by
  unfold newCone
  rw [mkCone_len, List.length_append]; rfl
theorem newCone_get {h : PH} {b : Int32} {s r : Nat} (hr : r < h.length) : (newCone h b s)[r]? = h[r]? := by
  unfold newCone
  rw [mkCone_get (by rw [List.length_append]; exact Nat.lt_succ_of_lt hr) (by omega), List.getElem?_append_left hr]
theorem k_cone {call : Callee} (hc : call = wpC sc (d + 2)) {s : Nat} {b : Int32} (hv : VH h) (hl : h.length < 500) (hs : s < h.length) (hb : b = 0 ∨ b = 1) (hQ : Q (.inl none) (newCone h b s)) : call 0 [.ref h.length, .int b, .ref s] (h ++ [.inr (0, [.int 0, .null, .null, .null])]) Q :=
  callee hc (k_X0 (VH.push hv (by omega) rfl) (by rw [List.length_append]; exact Nat.lt_trans (Nat.succ_lt_succ hl) (by decide)) gn (by rw [List.length_append]; exact Nat.lt_succ_of_lt hs) hb hQ)
theorem k_X2 {t s : Nat} (hv : VH h) (hl : h.length < 400) (hr : h[t]? = some (.inr (2, [.null, .null]))) (hs : s < h.length) (hQ : Q (.inl none) (mkShape h t s)) : wpC sc (d + 3) 33 [.ref t, .ref s] h Q := by
  have htl := gl hr
  generalize e2 : ((newCone h 0 s).set t (.inr (2, [.ref h.length, .null])) : PH) = h2
  have l2 : h2.length = h.length + 5 := by rw [← e2, List.length_set, newCone_len]
  have z1 : VH (newCone h 0 s) := VH.cone (VH.push hv (by omega) rfl) (by rw [List.length_append]; exact Nat.lt_trans (Nat.succ_lt_succ hl) (by decide)) (by rw [List.length_append]; exact Nat.lt_succ_of_lt hs)
  have z2 : VH h2 := by rw [← e2]; exact VH.set z1 (al1 (vvR (by rw [newCone_len]; omega)) rfl)
  have g1 : (newCone h 0 s)[t]? = some (.inr (2, [.null, .null])) := by rw [newCone_get htl]; exact hr
  have g2 : (newCone h2 1 s)[t]? = some (.inr (2, [.ref h.length, .null])) := by rw [newCone_get (by omega), ← e2]; exact gsS (by rw [newCone_len]; omega)
  have hQ' : Q (.inl none) ((newCone h2 1 s).set t (.inr (2, [.ref h.length, .ref h2.length]))) := by rw [l2, ← e2]; exact hQ
  have q1 : ([(0, .ref t), (1, .ref s)] : LV).all (fun q => vv h.length q.2) = true := al1 (vvR (by omega)) (al1 (vvR (by omega)) rfl)
  have q2 : ([(0, .ref t), (1, .ref s)] : LV).all (fun q => vv h2.length q.2) = true := al1 (vvR (by omega)) (al1 (vvR (by omega)) rfl)
  refine enter rfl rfl (fun call hc => go hc 17 (fun K hK => ?_))
  conv => whnf
  refine ⟨Nat.le_of_ble_eq_true rfl, ?_⟩
  conv => whnf
  refine ⟨vld_of hv q1 (al1 (vvR (by omega)) rfl), ?_⟩
  conv => whnf
  refine ⟨Nat.le_of_ble_eq_true rfl, vl2 hv q1 (al1 (vvR (by omega)) (al1 (vvR (by omega)) rfl)) (by omega) rfl, ?_⟩
  conv => whnf
  refine k_cone hc hv (by omega) hs (Or.inl rfl) ?_
  conv => whnf
  refine ⟨_, g1, Nat.le_of_ble_eq_true rfl, ?_⟩
  change stpN _ _ _ _ _ _ _ _ _ _ ((newCone h 0 s).set t (.inr (2, [.ref h.length, .null]))) _ _
  rw [e2]
  conv => whnf
  refine ⟨vld_of z2 q2 (al1 (vvR (by omega)) rfl), ?_⟩
  conv => whnf
  refine ⟨Nat.le_of_ble_eq_true rfl, vl2 z2 q2 (al1 (vvR (by omega)) (al1 (vvR (by omega)) rfl)) (by omega) rfl, ?_⟩
  conv => whnf
  refine k_cone hc z2 (by omega) (by omega) (Or.inr rfl) ?_
  conv => whnf
  refine ⟨_, g2, Nat.le_of_ble_eq_true rfl, ?_⟩
  conv => whnf
  exact hQ'
end INIT
