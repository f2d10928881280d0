section STEPM
variable {p : Program} {l : Launch} {e : Env} {R : Room} {s : State} {m : MethodId} {args : Array Value} {below : List Frame} {meth : Method} {c : Code}
variable {dC : Nat → ClassId} {dI : Nat → Nat → Nat} {cy : Nat → ClassId} {sa : Nat → Nat} {B b : Nat} {sc : Scr}
theorem Inv.rc {al : Bool} {n0 : Nat} {ad0 ad : Nat → Nat} {H : Heap} {locs : List Loc} {cells slots : Nat} {h : PH} {rc rs rc' rs' : Nat} (I : Inv dC dI cy B b R s al n0 ad0 ad H locs cells slots h rc rs) (h1 : rc' ≤ rc) (h2 : rs' ≤ rs) : Inv dC dI cy B b R s al n0 ad0 ad H locs cells slots h rc' rs' := by
  obtain ⟨i1, i2, i3, i4, i5, i6, i7, i8, i9⟩ := I
  exact ⟨i1, i2, i3, i4, i5, i6, i7, by omega, by omega⟩
/-- a thing's contents change -/
theorem Inv.put {al : Bool} {n0 : Nat} {ad0 ad : Nat → Nat} {H H1 : Heap} {locs locs1 : List Loc} {cells slots : Nat} {h : PH} {rc rs : Nat} {r : Nat} {a' : va_E} (I : Inv dC dI cy B b R s al n0 ad0 ad H locs cells slots h rc rs) (hP : va_P (dC, dI) vwCl ((toW ad cy h).set r (ad r, cvE ad cy a')) H1) (hD : va_D (AB B) ((toW ad cy h).set r (ad r, cvE ad cy a'))) (hS : va_S (AB B) s.heap H1 locs1) : Inv dC dI cy B b R s al n0 ad0 ad H1 locs1 cells slots (h.set r a') rc rs := by
  obtain ⟨i1, i2, i3, i4, i5, i6, i7, i8, i9⟩ := I
  rw [toW_set] at hP hD
  exact ⟨i1, i2, by rw [List.length_set]; exact i3, i4, hP, hD, hS, i8, i9⟩
/-- a thing is made -/
theorem Inv.new {al : Bool} {n0 : Nat} {ad0 ad : Nat → Nat} {H H1 : Heap} {locs : List Loc} {cells slots n : Nat} {h : PH} {rc rs : Nat} {q : Nat} {a' : va_E} (hal : al = true) (I : Inv dC dI cy B b R s al n0 ad0 ad H locs cells slots h rc rs) (hl : h.length < SID) (hv : h.all (ve h.length) = true) (hP : va_P (dC, dI) vwCl (toW ad cy h ++ [(q, cvE (va_up ad h.length q) cy a')]) H1) (hD : va_D (AB B) (toW ad cy h ++ [(q, cvE (va_up ad h.length q) cy a')])) (hS : va_S (AB B) s.heap H1 locs) (hc : cells + 1 ≤ cells + rc) (hn : n ≤ rs) :
    Inv dC dI cy B b R s al n0 ad0 (va_up ad h.length q) H1 locs (cells + 1) (slots + n) (h ++ [a']) (rc - 1) (rs - n) ∧ agr h.length ad (va_up ad h.length q) := by
  obtain ⟨i1, i2, i3, i4, i5, i6, i7, i8, i9⟩ := I
  have hag : agr h.length ad (va_up ad h.length q) := fun i hi => va_up_ne ad q (by omega)
  have hk : ∀ (ws : va_W), ws = toW ad cy h → ∀ k z, ws[k]? = some z → (ws ++ [(q, cvE (va_up ad h.length q) cy a')])[k]? = some z := fun ws _ k z hz => by
    rw [List.getElem?_append_left (List.getElem?_eq_some_iff.mp hz).1]; exact hz
  have hP0 : va_P (dC, dI) vwCl (toW ad cy h) H1 := fun k z hz => hP k z (hk _ rfl k z hz)
  have hD0 : va_D (AB B) (toW ad cy h) := i6
  have hlast : (toW ad cy h ++ [(q, cvE (va_up ad h.length q) cy a')])[h.length]? = some (q, cvE (va_up ad h.length q) cy a') := by
    rw [List.getElem?_append_right (by rw [toW_length]; exact Nat.le_refl _), toW_length]; simp
  have hP1 : va_P (dC, dI) vwCl (toW (va_up ad h.length q) cy (h ++ [a'])) H1 := by
    rw [toW_app]
    refine va_P.app (toW_ext hag (Nat.le_refl _) hv hP0) ?_
    intro k z hz
    have hz' : z = (q, cvE (va_up ad h.length q) cy a') := by
      cases k with
      | zero => have := Option.some.inj hz; rw [← this, va_up_self]
      | succ k => simp at hz
    rw [hz']
    exact hP _ _ hlast
  have hD1 : va_D (AB B) (toW (va_up ad h.length q) cy (h ++ [a'])) := by
    rw [toW_app]
    refine va_D.app (toW_extD hag (Nat.le_refl _) hD0) ?_ ?_
    · refine ⟨fun i j p1 q1 hi hj _ => ?_, fun k z hz => ?_⟩
      · cases i with
        | zero => cases j with
          | zero => rfl
          | succ j => simp at hj
        | succ i => simp at hi
      · have hz' : z.1 = q := by
          cases k with
          | zero => have := Option.some.inj hz; rw [← this]; exact va_up_self _ _ _
          | succ k => simp at hz
        rw [hz']
        exact hD.2 _ _ hlast
    · intro i j p1 q1 hi hj
      have hj' : q1.1 = q := by
        cases j with
        | zero => have := Option.some.inj hj; rw [← this]; exact va_up_self _ _ _
        | succ j => simp at hj
      unfold toW at hi
      rw [List.getElem?_mapIdx] at hi
      cases he : h[i]? with
      | none => rw [he] at hi; cases hi
      | some e9 =>
        have hil : i < h.length := (List.getElem?_eq_some_iff.mp he).1
        rw [he] at hi
        have hp1 : p1.1 = ad i := by have := Option.some.inj hi; rw [← this]; exact va_up_ne ad q (by omega)
        intro heq
        have h9 := hD.1 i h.length (ad i, cvE ad cy e9) (q, cvE (va_up ad h.length q) cy a') (hk _ rfl i _ (toW_get he)) hlast (by rw [← hp1, heq, hj'])
        omega
  refine ⟨⟨(fun h => by rw [hal] at h; cases h), fun i hi => ?_, (by rw [List.length_append]; omega), by rw [va_up_ne ad q (by omega)]; exact i4, hP1, hD1, hS, by omega, by omega⟩, hag⟩
  rw [va_up_ne ad q (by omega)]; exact i2 i hi

theorem akK_int {k : Nat → va_E → Prop} {n : Nat} (h : akK .int k n) : k 4 (.inl (0, n, .inl (fun _ => 0))) := h
theorem akK_long {k : Nat → va_E → Prop} {n : Nat} (h : akK .long k n) : k 8 (.inl (1, n, .inr (.inl (fun _ => 0)))) := h
theorem akK_boolean {k : Nat → va_E → Prop} {n : Nat} (h : akK .boolean k n) : k 1 (.inl (2, n, .inl (fun _ => 0))) := h
theorem df_mv {ad : Nat → Nat} {ci : Nat} (hci : ci < 5) {fs : List Value} (h : nth dfL ci = some fs) : fs.map (mv ad) = fs := by
  match ci, hci, h with
  | 0, _, h => cases h; rfl
  | 1, _, h => cases h; rfl
  | 2, _, h => cases h; rfl
  | 3, _, h => cases h; rfl
  | 4, _, h => cases h; rfl

set_option maxHeartbeats 8000000 in
set_option maxRecDepth 100000 in
theorem sim_step (hT : TblOK) {D : Nat} {mi : MI} {Ts : List Cond} {n0 : Nat} {ad0 : Nat → Nat} {Q : Out → PH → Prop} {Z : State → Prop} (hmi : mi ∈ mtL) (C0 : Ctx p R s m args meth c dC dI cy sa B b sc D mi Ts)
    (hcall : ∀ (k : Nat) (mj : MI) (as : List Value) (h : PH) (Q : Out → PH → Prop) (ad : Nat → Nat), nth mtL k = some mj → k < 157 → wpC sc D k as h Q → vx_Met l (mNm mj) (wsM mj) (rmM D mj) (PcM dC dI cy sa B b sc ad as h) (QcM dC dI cy B (mAl mj) h.length ad (qth (mTh mj) Q)) (XcM dC dI cy B (mAl mj) h.length ad (qth (mTh mj) Q)) (mMc mj) (mMs mj) (AB B))
    (hret : HRet p l e R s m args below meth c dC dI cy B b mi n0 ad0 Q Z) (hthr : HThr p l e R s m args below meth c dC dI cy B b D mi n0 ad0 Q Z)
    (pc : Nat) (lv : LV) (st : List Value) (h : PH) (rc rs : Nat) (hstp : stp D (wpC sc D) sc mi Q (Sim p l e R s m args below meth c dC dI cy B b mi n0 ad0 Z) pc lv st h rc rs) : Sim p l e R s m args below meth c dC dI cy B b mi n0 ad0 Z pc lv st h rc rs := by
  intro ad H locs cells slots ls I hs hl
  obtain ⟨hx, hb, hml, hown, hts, hsub, hlocks, hfr, hlo, hVM, hHP, hini, hexc⟩ := id C0
  obtain ⟨hneed, hrows, hflo, hnmo, htho⟩ := hT.1 mi hmi
  have hw : ∀ w, w ∈ needB mi → w.before args s = true := fun w hw => hts w (hsub w (hneed w hw).1 (hneed w hw).2)
  obtain ⟨⟨i, len, nx, tg⟩, hlook, hi⟩ := oK_spec hstp
  obtain ⟨hdec, hnx, hln, htg⟩ := row_of hrows hlook
  subst hnx
  replace hi : ins D (wpC sc D) sc mi Q (Sim p l e R s m args below meth c dC dI cy B b mi n0 ad0 Z) pc i (pc + len) tg lv st h rc rs := hi
  have hlsz : ls.size = mLo mi := hl.1
  have hA : ∀ q : Nat, s.heap.size ≤ q → AB B q := fun q h9 => Nat.le_trans hHP.2.2.2.2 h9
  cases i
  all_goals first
    | exact False.elim hi
    | skip

  case iconst n =>
    obtain rfl : len = 1 := eq_of_beq (a := len) (b := 1) hln
    exact lv_iconst hx hb hdec rfl ((icK_spec hi) _ _ _ _ _ _ I hs hl)
  case bipush n =>
    obtain rfl : len = 2 := eq_of_beq (a := len) (b := 2) hln
    obtain ⟨v, hv, hi⟩ := oK_spec hi
    have h9 := of_decide_eq_true htg
    exact lv_bipush hx hb hdec (Option.some.inj (h9.symm.trans hv)) (hi _ _ _ _ _ _ I hs hl)
  case sipush n =>
    obtain rfl : len = 3 := eq_of_beq (a := len) (b := 3) hln
    obtain ⟨v, hv, hi⟩ := oK_spec hi
    have h9 := of_decide_eq_true htg
    exact lv_sipush hx hb hdec (Option.some.inj (h9.symm.trans hv)) (hi _ _ _ _ _ _ I hs hl)
  case lconst n =>
    obtain rfl : len = 1 := eq_of_beq (a := len) (b := 1) hln
    exact lv_lconst hx hb hdec rfl ((lcK_spec hi) _ _ _ _ _ _ I hs hl)
  case ldc2_w idx =>
    obtain rfl : len = 3 := eq_of_beq (a := len) (b := 3) hln
    obtain ⟨v, hv, hi⟩ := oK_spec hi
    exact lv_ldc2 hx hb hown (hw (.constantLong (mOwn mi) idx v) (by
      unfold needB
      exact List.mem_append_left _ (List.mem_append_left _ (List.mem_append_right _ (List.mem_map.mpr ⟨(idx, v), lk_mem hv, rfl⟩))))) hdec (hi _ _ _ _ _ _ I hs hl)
  case iload_n k =>
    obtain rfl : len = 1 := eq_of_beq (a := len) (b := 1) hln
    obtain ⟨x, hm, hi⟩ := gI_spec hi
    exact lv_iload_n hx hb hdec rfl (hl.2.2 _ (mvl_mem hm)) (hi _ _ _ _ _ _ I hs hl)
  case iload k =>
    obtain rfl : len = 2 := eq_of_beq (a := len) (b := 2) hln
    obtain ⟨x, hm, hi⟩ := gI_spec hi
    exact lv_iload hx hb hdec (hl.2.2 _ (mvl_mem hm)) (hi _ _ _ _ _ _ I hs hl)
  case lload_n k =>
    obtain rfl : len = 1 := eq_of_beq (a := len) (b := 1) hln
    obtain ⟨x, hm, hi⟩ := gL_spec hi
    exact lv_lload_n hx hb hdec rfl (hl.2.2 _ (mvl_mem hm)) (hi _ _ _ _ _ _ I hs hl)
  case lload k =>
    obtain rfl : len = 2 := eq_of_beq (a := len) (b := 2) hln
    obtain ⟨x, hm, hi⟩ := gL_spec hi
    exact lv_lload hx hb hdec (hl.2.2 _ (mvl_mem hm)) (hi _ _ _ _ _ _ I hs hl)
  case aload_n k =>
    obtain rfl : len = 1 := eq_of_beq (a := len) (b := 1) hln
    obtain ⟨x, hm, hi⟩ := gR_spec hi
    exact lv_aload_n hx hb hdec rfl (hl.2.2 _ (mvl_mem hm)) (hi _ _ _ _ _ _ I hs hl)
  case aload k =>
    obtain rfl : len = 2 := eq_of_beq (a := len) (b := 2) hln
    obtain ⟨x, hm, hi⟩ := gR_spec hi
    exact lv_aload hx hb hdec (hl.2.2 _ (mvl_mem hm)) (hi _ _ _ _ _ _ I hs hl)
  case istore_n k =>
    obtain rfl : len = 1 := eq_of_beq (a := len) (b := 1) hln
    obtain ⟨x, st1, rfl, hi⟩ := pI_spec hi
    obtain ⟨hk, hi⟩ := bb_spec hi
    obtain ⟨lv', hK, hs', hm⟩ := in1_spec hs hi
    exact lv_istore_n hx hb hdec rfl hl (Nat.le_of_ble_eq_true hk) rfl (fun ls' hl' => hK _ _ _ _ _ _ I hs' (lv_less hl' (sub1 hm)))
  case istore k =>
    obtain rfl : len = 2 := eq_of_beq (a := len) (b := 2) hln
    obtain ⟨x, st1, rfl, hi⟩ := pI_spec hi
    obtain ⟨hk, hi⟩ := bb_spec hi
    obtain ⟨lv', hK, hs', hm⟩ := in1_spec hs hi
    exact lv_istore hx hb hdec hl (Nat.le_of_ble_eq_true hk) rfl (fun ls' hl' => hK _ _ _ _ _ _ I hs' (lv_less hl' (sub1 hm)))
  case astore_n k =>
    obtain rfl : len = 1 := eq_of_beq (a := len) (b := 1) hln
    obtain ⟨x, st1, rfl, hi⟩ := pR_spec hi
    obtain ⟨hk, hi⟩ := bb_spec hi
    obtain ⟨lv', hK, hs', hm⟩ := in1_spec hs hi
    exact lv_astore_n hx hb hdec rfl hl (Nat.le_of_ble_eq_true hk) rfl (fun ls' hl' => hK _ _ _ _ _ _ I hs' (lv_less hl' (sub1 hm)))
  case astore k =>
    obtain rfl : len = 2 := eq_of_beq (a := len) (b := 2) hln
    obtain ⟨x, st1, rfl, hi⟩ := pR_spec hi
    obtain ⟨hk, hi⟩ := bb_spec hi
    obtain ⟨lv', hK, hs', hm⟩ := in1_spec hs hi
    exact lv_astore hx hb hdec hl (Nat.le_of_ble_eq_true hk) rfl (fun ls' hl' => hK _ _ _ _ _ _ I hs' (lv_less hl' (sub1 hm)))
  case lstore_n k =>
    obtain rfl : len = 1 := eq_of_beq (a := len) (b := 1) hln
    obtain ⟨x, st1, rfl, hi⟩ := pL_spec hi
    obtain ⟨hk, hi⟩ := bb_spec hi
    obtain ⟨lv', hK, hs', hm⟩ := in2_spec hs hi
    exact lv_lstore_n hx hb hdec rfl hl (Nat.le_of_ble_eq_true hk) rfl (fun ls' hl' => hK _ _ _ _ _ _ I hs' (lv_less hl' (sub2 hm)))
  case lstore k =>
    obtain rfl : len = 2 := eq_of_beq (a := len) (b := 2) hln
    obtain ⟨x, st1, rfl, hi⟩ := pL_spec hi
    obtain ⟨hk, hi⟩ := bb_spec hi
    obtain ⟨lv', hK, hs', hm⟩ := in2_spec hs hi
    exact lv_lstore hx hb hdec hl (Nat.le_of_ble_eq_true hk) rfl (fun ls' hl' => hK _ _ _ _ _ _ I hs' (lv_less hl' (sub2 hm)))
  case iinc k n =>
    obtain rfl : len = 3 := eq_of_beq (a := len) (b := 3) hln
    obtain ⟨x, hm, hi⟩ := gI_spec hi
    obtain ⟨hk, hi⟩ := bb_spec hi
    have hi := icK_spec hi
    obtain ⟨lv', hK, hs', hm'⟩ := in1_spec hs hi
    obtain ⟨j, hj⟩ := List.getElem?_of_mem (mvl_mem (ad := ad) hm)
    exact lv_iinc hx hb hdec hl hj rfl (Nat.le_of_ble_eq_true hk) rfl (fun ls' hl' => hK _ _ _ _ _ _ I hs' (lv_less hl' (sub1 hm')))
  case iadd =>
    obtain rfl : len = 1 := eq_of_beq (a := len) (b := 1) hln
    obtain ⟨y, st1, rfl, hi⟩ := pI_spec hi
    obtain ⟨x, st2, rfl, hi⟩ := pI_spec hi
    exact lv_iadd hx hb hdec (hi _ _ _ _ _ _ I hs hl)
  case isub =>
    obtain rfl : len = 1 := eq_of_beq (a := len) (b := 1) hln
    obtain ⟨y, st1, rfl, hi⟩ := pI_spec hi
    obtain ⟨x, st2, rfl, hi⟩ := pI_spec hi
    exact lv_isub hx hb hdec (hi _ _ _ _ _ _ I hs hl)
  case imul =>
    obtain rfl : len = 1 := eq_of_beq (a := len) (b := 1) hln
    obtain ⟨y, st1, rfl, hi⟩ := pI_spec hi
    obtain ⟨x, st2, rfl, hi⟩ := pI_spec hi
    exact lv_imul hx hb hdec (hi _ _ _ _ _ _ I hs hl)
  case iand =>
    obtain rfl : len = 1 := eq_of_beq (a := len) (b := 1) hln
    obtain ⟨y, st1, rfl, hi⟩ := pI_spec hi
    obtain ⟨x, st2, rfl, hi⟩ := pI_spec hi
    exact lv_iand hx hb hdec (hi _ _ _ _ _ _ I hs hl)
  case ineg =>
    obtain rfl : len = 1 := eq_of_beq (a := len) (b := 1) hln
    obtain ⟨x, st1, rfl, hi⟩ := pI_spec hi
    exact lv_ineg hx hb hdec (hi _ _ _ _ _ _ I hs hl)
  case ladd =>
    obtain rfl : len = 1 := eq_of_beq (a := len) (b := 1) hln
    obtain ⟨y, st1, rfl, hi⟩ := pL_spec hi
    obtain ⟨x, st2, rfl, hi⟩ := pL_spec hi
    exact lv_ladd hx hb hdec (hi _ _ _ _ _ _ I hs hl)
  case lsub =>
    obtain rfl : len = 1 := eq_of_beq (a := len) (b := 1) hln
    obtain ⟨y, st1, rfl, hi⟩ := pL_spec hi
    obtain ⟨x, st2, rfl, hi⟩ := pL_spec hi
    exact lv_lsub hx hb hdec (hi _ _ _ _ _ _ I hs hl)
  case lmul =>
    obtain rfl : len = 1 := eq_of_beq (a := len) (b := 1) hln
    obtain ⟨y, st1, rfl, hi⟩ := pL_spec hi
    obtain ⟨x, st2, rfl, hi⟩ := pL_spec hi
    exact lv_lmul hx hb hdec (hi _ _ _ _ _ _ I hs hl)
  case ldiv =>
    obtain rfl : len = 1 := eq_of_beq (a := len) (b := 1) hln
    obtain ⟨y, st1, rfl, hi⟩ := pL_spec hi
    obtain ⟨x, st2, rfl, hi⟩ := pL_spec hi
    exact lv_ldiv hx hb hdec hi.1 (hi.2 _ _ _ _ _ _ I hs hl)
  case lrem =>
    obtain rfl : len = 1 := eq_of_beq (a := len) (b := 1) hln
    obtain ⟨y, st1, rfl, hi⟩ := pL_spec hi
    obtain ⟨x, st2, rfl, hi⟩ := pL_spec hi
    exact lv_lrem hx hb hdec hi.1 (hi.2 _ _ _ _ _ _ I hs hl)
  case lneg =>
    obtain rfl : len = 1 := eq_of_beq (a := len) (b := 1) hln
    obtain ⟨x, st1, rfl, hi⟩ := pL_spec hi
    exact lv_lneg hx hb hdec (hi _ _ _ _ _ _ I hs hl)
  case i2l =>
    obtain rfl : len = 1 := eq_of_beq (a := len) (b := 1) hln
    obtain ⟨x, st1, rfl, hi⟩ := pI_spec hi
    exact lv_i2l hx hb hdec rfl (hi _ _ _ _ _ _ I hs hl)
  case l2i =>
    obtain rfl : len = 1 := eq_of_beq (a := len) (b := 1) hln
    obtain ⟨x, st1, rfl, hi⟩ := pL_spec hi
    exact lv_l2i hx hb hdec rfl (hi _ _ _ _ _ _ I hs hl)
  case lcmp =>
    obtain rfl : len = 1 := eq_of_beq (a := len) (b := 1) hln
    obtain ⟨y, st1, rfl, hi⟩ := pL_spec hi
    obtain ⟨x, st2, rfl, hi⟩ := pL_spec hi
    exact W.lcmp hx hb hdec (hi _ _ _ _ _ _ I hs hl)
  case dup =>
    obtain rfl : len = 1 := eq_of_beq (a := len) (b := 1) hln
    obtain ⟨v, st1, rfl, hv, hi⟩ := p1_spec hi
    exact lv_dup hx hb hdec (by rw [mv_cat]; exact hv) (hi _ _ _ _ _ _ I hs hl)
  case dup2 =>
    obtain rfl : len = 1 := eq_of_beq (a := len) (b := 1) hln
    obtain ⟨v, st1, rfl, hv, hi⟩ := p1_spec hi
    obtain ⟨w, st2, rfl, hv2, hi⟩ := p1_spec hi
    exact lv_dup2_11 hx hb hdec (by rw [mv_cat]; exact hv) (by rw [mv_cat]; exact hv2) (hi _ _ _ _ _ _ I hs hl)
  case pop =>
    obtain rfl : len = 1 := eq_of_beq (a := len) (b := 1) hln
    obtain ⟨v, st1, rfl, hv, hi⟩ := p1_spec hi
    exact lv_pop hx hb hdec (by rw [mv_cat]; exact hv) (hi _ _ _ _ _ _ I hs hl)
  case ifCond cnd off =>
    obtain rfl : len = 3 := eq_of_beq (a := len) (b := 3) hln
    have ht := of_decide_eq_true htg
    obtain ⟨x, st1, rfl, hi⟩ := pI_spec hi
    cases cnd
    · exact lv_if_eq hx hb hdec ht (fun q => hi.1 q _ _ _ _ _ _ I hs hl) (fun q => hi.2 q _ _ _ _ _ _ I hs hl)
    · exact lv_if_ne hx hb hdec ht (fun q => hi.2 q _ _ _ _ _ _ I hs hl) (fun q => hi.1 q _ _ _ _ _ _ I hs hl)
    · exact lv_if_lt hx hb hdec ht (fun q => hi.1 q _ _ _ _ _ _ I hs hl) (fun q => hi.2 q _ _ _ _ _ _ I hs hl)
    · exact lv_if_ge hx hb hdec ht (fun q => hi.1 q _ _ _ _ _ _ I hs hl) (fun q => hi.2 q _ _ _ _ _ _ I hs hl)
    · exact lv_if_gt hx hb hdec ht (fun q => hi.1 q _ _ _ _ _ _ I hs hl) (fun q => hi.2 q _ _ _ _ _ _ I hs hl)
    · exact lv_if_le hx hb hdec ht (fun q => hi.1 q _ _ _ _ _ _ I hs hl) (fun q => hi.2 q _ _ _ _ _ _ I hs hl)
  case if_icmp cnd off =>
    obtain rfl : len = 3 := eq_of_beq (a := len) (b := 3) hln
    have ht := of_decide_eq_true htg
    obtain ⟨y, st1, rfl, hi⟩ := pI_spec hi
    obtain ⟨x, st2, rfl, hi⟩ := pI_spec hi
    cases cnd
    · exact lv_icmp_eq hx hb hdec ht (fun q => hi.1 q _ _ _ _ _ _ I hs hl) (fun q => hi.2 q _ _ _ _ _ _ I hs hl)
    · exact lv_icmp_ne hx hb hdec ht (fun q => hi.2 q _ _ _ _ _ _ I hs hl) (fun q => hi.1 q _ _ _ _ _ _ I hs hl)
    · exact lv_icmp_lt hx hb hdec ht (fun q => hi.1 q _ _ _ _ _ _ I hs hl) (fun q => hi.2 q _ _ _ _ _ _ I hs hl)
    · exact lv_icmp_ge hx hb hdec ht (fun q => hi.1 q _ _ _ _ _ _ I hs hl) (fun q => hi.2 q _ _ _ _ _ _ I hs hl)
    · exact lv_icmp_gt hx hb hdec ht (fun q => hi.1 q _ _ _ _ _ _ I hs hl) (fun q => hi.2 q _ _ _ _ _ _ I hs hl)
    · exact lv_icmp_le hx hb hdec ht (fun q => hi.1 q _ _ _ _ _ _ I hs hl) (fun q => hi.2 q _ _ _ _ _ _ I hs hl)
  case goto off =>
    obtain rfl : len = 3 := eq_of_beq (a := len) (b := 3) hln
    have ht := of_decide_eq_true htg
    exact lv_goto hx hb hdec ht (hi _ _ _ _ _ _ I hs hl)
  case tableswitch dflt lo hgh offs =>
    obtain ⟨x, st1, rfl, hi⟩ := pI_spec hi
    obtain ⟨⟨dt, ts⟩, hq, hi⟩ := oK_spec hi
    have htg : (match lk (mSw mi) pc with
        | some (dt, ts) => decide ((pc : Int) + dflt = (dt : Int)) && decide (offs.toList.map (fun o => (pc : Int) + o) = ts.map (fun t : Nat => (t : Int))) && decide (hgh = lo + (ts.length : Int) - 1)
        | none => false) = true := htg
    rw [hq] at htg
    simp only [Bool.and_eq_true, decide_eq_true_eq] at htg
    obtain ⟨⟨hd, ho⟩, hlen⟩ := htg
    by_cases hout : x.toInt < lo ∨ hgh < x.toInt
    · exact lv_tableOut hx hb hdec hout hd (hi.1 hout _ _ _ _ _ _ I hs hl)
    · have h1 : ¬ x.toInt < lo := fun q => hout (Or.inl q)
      have h2 : ¬ hgh < x.toInt := fun q => hout (Or.inr q)
      have hj : (x.toInt - lo).toNat < ts.length := by omega
      obtain ⟨t, ht, hK⟩ := sw0_get hi.2 (x.toInt - lo).toNat hj (by omega)
      have ho' := congrArg (fun l => l[(x.toInt - lo).toNat]?) ho
      simp only [List.getElem?_map, ht, Option.map_some] at ho'
      cases hof : offs.toList[(x.toInt - lo).toNat]? with
      | none => rw [hof] at ho'; cases ho'
      | some off =>
        rw [hof] at ho'
        exact lv_tableIn (off := off) hx hb hdec h1 h2 (by rw [← Array.getElem?_toList]; exact hof) (Option.some.inj ho') (hK _ _ _ _ _ _ I hs hl)
  case getfield idx =>
    obtain rfl : len = 3 := eq_of_beq (a := len) (b := 3) hln
    obtain ⟨⟨ci, k⟩, hq, hi⟩ := oK_spec hi
    have hflm : (idx, ci, k) ∈ mFl mi := lk_mem hq
    have hfo8 : (ci < 5 ∧ k < (cTn ci).2.2) ∧ ((!(mAl mi && !mSt mi)) = true ∨ (cTn ci).1 = mOwn mi) := by
      have h9 := hflo
      unfold flOK at h9
      simp only [Bool.and_eq_true] at h9
      have h8 := List.all_eq_true.mp h9.1.1 _ hflm
      simpa only [Bool.and_eq_true, Bool.or_eq_true, decide_eq_true_eq] using h8
    have hfo := hfo8.1
    have hlk : (Cond.fieldLink (mOwn mi) idx (cTn ci).1 ((cTn ci).2.1 k).2.1 ((cTn ci).2.1 k).2.2.1).before args s = true := hw _ (by
      unfold needB
      exact List.mem_append_left _ (List.mem_append_left _ (List.mem_append_left _ (List.mem_append_left _ (List.mem_append_right _ (List.mem_map.mpr ⟨(idx, ci, k), hflm, rfl⟩))))))
    have hin : ∀ w ∈ u_ws (cTn ci).1 (cTn ci).2.1 (cTn ci).2.2, w ∈ Ts := fun w hw9 => hsub w (hT.2.2.1 ci hfo.1 w hw9).1 (hT.2.2.1 ci hfo.1 w hw9).2
    obtain ⟨r, st1, rfl, hi⟩ := pR_spec hi
    obtain ⟨fs, v, hr, hv, hi⟩ := hi
    exact va_get (ci := ci) (v := mv ad v) (C := (cTn ci).1) (T := (cTn ci).2.1) (N := (cTn ci).2.2) hx hb hts hin hown hVM.1 I.2.2.2.2.1 r (toW_get_obj hr) (cT_get ci hfo.1) k hfo.2 hlk (fun z h9 => by rw [cT_decl ci hfo.1 k hfo.2] at h9; exact h9) (by rw [List.getElem?_map, hv]; rfl) hdec (hi _ _ _ _ _ _ I hs hl)
  case putfield idx =>
    obtain rfl : len = 3 := eq_of_beq (a := len) (b := 3) hln
    obtain ⟨⟨ci, k⟩, hq, hi⟩ := oK_spec hi
    have hflm : (idx, ci, k) ∈ mFl mi := lk_mem hq
    have hfo8 : (ci < 5 ∧ k < (cTn ci).2.2) ∧ ((!(mAl mi && !mSt mi)) = true ∨ (cTn ci).1 = mOwn mi) := by
      have h9 := hflo
      unfold flOK at h9
      simp only [Bool.and_eq_true] at h9
      have h8 := List.all_eq_true.mp h9.1.1 _ hflm
      simpa only [Bool.and_eq_true, Bool.or_eq_true, decide_eq_true_eq] using h8
    have hfo := hfo8.1
    have hlk : (Cond.fieldLink (mOwn mi) idx (cTn ci).1 ((cTn ci).2.1 k).2.1 ((cTn ci).2.1 k).2.2.1).before args s = true := hw _ (by
      unfold needB
      exact List.mem_append_left _ (List.mem_append_left _ (List.mem_append_left _ (List.mem_append_left _ (List.mem_append_right _ (List.mem_map.mpr ⟨(idx, ci, k), hflm, rfl⟩))))))
    have hin : ∀ w ∈ u_ws (cTn ci).1 (cTn ci).2.1 (cTn ci).2.2, w ∈ Ts := fun w hw9 => hsub w (hT.2.2.1 ci hfo.1 w hw9).1 (hT.2.2.1 ci hfo.1 w hw9).2
    obtain ⟨v, st1, rfl, hi⟩ := pA_spec hi
    obtain ⟨r, st2, rfl, hi⟩ := pR_spec hi
    obtain ⟨hfin, hi⟩ := bb_spec hi
    have hi : okK (tyOf ci k) v _ := hi
    rw [cT_code ci hfo.1 k hfo.2] at hi
    obtain ⟨⟨fs, hr, hkl, hi⟩, hnf⟩ := okK_spec hi
    have hset : (fs.map (mv ad)).set k (mv ad v) = (fs.set k v).map (mv ad) := List.map_set.symm
    cases hf : fin ci k with
    | false =>
      refine va_put (ci := ci) (v := mv ad v) (C := (cTn ci).1) (T := (cTn ci).2.1) (N := (cTn ci).2.2) hx hb hts hin (cTy ci) (cT_ty ci hfo.1) (cT_nm ci hfo.1) hown hVM.1 I.2.2.2.2.1 I.2.2.2.2.2.1 I.2.2.2.2.2.2.1 r (toW_get_obj hr) (cT_get ci hfo.1) k hfo.2 hlk (fun z h9 => by rw [cT_decl ci hfo.1 k hfo.2] at h9; exact h9) (by rw [cT_fin ci hfo.1 k hfo.2]; exact hf) (cT_ty ci hfo.1 k hfo.2) (hnf ad).1 (hnf ad).2 (by rw [List.length_map]; exact hkl) hdec (fun H1 locs1 hP1 hD1 hS1 => ?_)
      rw [hset] at hP1 hD1
      exact hi _ _ _ _ _ _ (I.put (a' := .inr (ci, fs.set k v)) hP1 hD1 hS1) hs hl
    | true =>
      have hfin : (!(fin ci k) || (mAl mi && !mSt mi)) = true := hfin
      rw [hf] at hfin
      have hfin2 : mAl mi = true ∧ mSt mi = false := by simpa using hfin
      refine va_putF (ci := ci) (v := mv ad v) (C := (cTn ci).1) (T := (cTn ci).2.1) (N := (cTn ci).2.2) hx hb hts hin (cTy ci) (cT_ty ci hfo.1) (cT_nm ci hfo.1) hown hVM.1 I.2.2.2.2.1 I.2.2.2.2.2.1 I.2.2.2.2.2.2.1 r (toW_get_obj hr) (cT_get ci hfo.1) k hfo.2 hlk (fun z h9 => by rw [cT_decl ci hfo.1 k hfo.2] at h9; exact h9) (by rw [cT_fin ci hfo.1 k hfo.2]; exact hf) (hini hfin2.1 hfin2.2) (by rw [cT_decl ci hfo.1 k hfo.2]; exact hfo8.2.elim (fun q => by rw [hfin2.1, hfin2.2] at q; cases q) id) (cT_ty ci hfo.1 k hfo.2) (hnf ad).1 (hnf ad).2 (by rw [List.length_map]; exact hkl) hdec (fun H1 locs1 hP1 hD1 hS1 => ?_)
      rw [hset] at hP1 hD1
      exact hi _ _ _ _ _ _ (I.put (a' := .inr (ci, fs.set k v)) hP1 hD1 hS1) hs hl
  case iaload =>
    obtain rfl : len = 1 := eq_of_beq (a := len) (b := 1) hln
    obtain ⟨j, st1, rfl, hi⟩ := pI_spec hi
    obtain ⟨r, st2, rfl, hi⟩ := pR_spec hi
    rcases hi with ⟨rfl, hj, hi⟩ | ⟨n, f, hr, hj, hi⟩
    · have h9 : mv ad (.ref SID) = .ref b := by show Value.ref (ad SID) = .ref b; rw [I.2.2.2.1]
      rw [List.map_cons, List.map_cons, h9]
      exact va_sld hx hb hHP.2.2.1 (Nat.lt_of_lt_of_le hHP.2.2.2.1 hHP.2.2.2.2) (Nat.not_le.mpr hHP.2.2.2.1) I.2.2.2.2.2.2.1 hj hdec (hi _ _ _ _ _ _ I hs hl)
    · exact va_iald hx hb hVM.1 I.2.2.2.2.1 r 0 (toW_get hr) rfl hj hdec (hi _ _ _ _ _ _ I hs hl)
  case laload =>
    obtain rfl : len = 1 := eq_of_beq (a := len) (b := 1) hln
    obtain ⟨j, st1, rfl, hi⟩ := pI_spec hi
    obtain ⟨r, st2, rfl, hi⟩ := pR_spec hi
    obtain ⟨n, f, hr, hj, hi⟩ := hi
    exact va_lald hx hb hVM.1 I.2.2.2.2.1 r 1 (toW_get hr) rfl hj hdec (hi _ _ _ _ _ _ I hs hl)
  case baload =>
    obtain rfl : len = 1 := eq_of_beq (a := len) (b := 1) hln
    obtain ⟨j, st1, rfl, hi⟩ := pI_spec hi
    obtain ⟨r, st2, rfl, hi⟩ := pR_spec hi
    obtain ⟨n, f, hr, hj, hi⟩ := hi
    exact va_zald hx hb hVM.1 I.2.2.2.2.1 r 2 (toW_get hr) rfl hj hdec (hi _ _ _ _ _ _ I hs hl)
  case aaload =>
    obtain rfl : len = 1 := eq_of_beq (a := len) (b := 1) hln
    obtain ⟨j, st1, rfl, hi⟩ := pI_spec hi
    obtain ⟨r, st2, rfl, hi⟩ := pR_spec hi
    obtain ⟨n, f, a9, hr, hj, hf, hi⟩ := hi
    refine va_aldq hx hb hVM.1 I.2.2.2.2.1 r 3 (toW_get hr) rfl hj hdec ?_
    have h9 : va_rf ((f j.toNatClampNeg).map ad) = .ref (ad a9) := by rw [hf]; rfl
    rw [h9]
    exact hi _ _ _ _ _ _ I hs hl
  case iastore =>
    obtain rfl : len = 1 := eq_of_beq (a := len) (b := 1) hln
    obtain ⟨x, st1, rfl, hi⟩ := pI_spec hi
    obtain ⟨j, st2, rfl, hi⟩ := pI_spec hi
    obtain ⟨r, st3, rfl, hi⟩ := pR_spec hi
    obtain ⟨n, f, hr, hj, hi⟩ := hi
    exact va_iast hx hb hVM.1 I.2.2.2.2.1 I.2.2.2.2.2.1 I.2.2.2.2.2.2.1 r 0 (toW_get hr) rfl hj hdec (fun H1 locs1 hP1 hD1 hS1 => hi _ _ _ _ _ _ (I.put (a' := .inl (0, n, .inl (upd f j.toNatClampNeg x))) hP1 hD1 hS1) hs hl)
  case lastore =>
    obtain rfl : len = 1 := eq_of_beq (a := len) (b := 1) hln
    obtain ⟨x, st1, rfl, hi⟩ := pL_spec hi
    obtain ⟨j, st2, rfl, hi⟩ := pI_spec hi
    obtain ⟨r, st3, rfl, hi⟩ := pR_spec hi
    obtain ⟨n, f, hr, hj, hi⟩ := hi
    exact va_last hx hb hVM.1 I.2.2.2.2.1 I.2.2.2.2.2.1 I.2.2.2.2.2.2.1 r 1 (toW_get hr) rfl hj hdec (fun H1 locs1 hP1 hD1 hS1 => hi _ _ _ _ _ _ (I.put (a' := .inl (1, n, .inr (.inl (vp_updL f j.toNatClampNeg x)))) hP1 hD1 hS1) hs hl)
  case bastore =>
    obtain rfl : len = 1 := eq_of_beq (a := len) (b := 1) hln
    obtain ⟨x, st1, rfl, hi⟩ := pI_spec hi
    obtain ⟨j, st2, rfl, hi⟩ := pI_spec hi
    obtain ⟨r, st3, rfl, hi⟩ := pR_spec hi
    obtain ⟨n, f, hr, hj, hi⟩ := hi
    exact va_zast hx hb hVM.1 I.2.2.2.2.1 I.2.2.2.2.2.1 I.2.2.2.2.2.2.1 r 2 (toW_get hr) rfl hj hdec (fun H1 locs1 hP1 hD1 hS1 => hi _ _ _ _ _ _ (I.put (a' := .inl (2, n, .inl (upd f j.toNatClampNeg (vp_nar .boolean x)))) hP1 hD1 hS1) hs hl)
  case aastore =>
    obtain rfl : len = 1 := eq_of_beq (a := len) (b := 1) hln
    obtain ⟨v, st1, rfl, hi⟩ := pR_spec hi
    obtain ⟨j, st2, rfl, hi⟩ := pI_spec hi
    obtain ⟨r, st3, rfl, hi⟩ := pR_spec hi
    obtain ⟨n, f, vs, hr, hv, hj, hi⟩ := hi
    refine va_astq (ci := 2) hx hb hVM.1 I.2.2.2.2.1 I.2.2.2.2.2.1 I.2.2.2.2.2.2.1 r 3 v (toW_get hr) rfl (toW_get_obj hv) rfl hj hdec (fun H1 locs1 hP1 hD1 hS1 => ?_)
    have h9 : va_up (fun q => (f q).map ad) j.toNatClampNeg (some (ad v)) = fun q => (va_up f j.toNatClampNeg (some v) q).map ad := by
      funext q
      by_cases hq : q = j.toNatClampNeg
      · subst hq; rw [va_up_self, va_up_self]; rfl
      · rw [va_up_ne _ _ hq, va_up_ne _ _ hq]
    rw [h9] at hP1 hD1
    exact hi _ _ _ _ _ _ (I.put (a' := .inl (3, n, .inr (.inr (.inr (.inr (va_up f j.toNatClampNeg (some v))))))) hP1 hD1 hS1) hs hl
  case arraylength =>
    obtain rfl : len = 1 := eq_of_beq (a := len) (b := 1) hln
    obtain ⟨r, st1, rfl, hi⟩ := pR_spec hi
    rcases hi with ⟨hr0, hi1⟩ | ⟨kd, n, x, hr, hk4, hi⟩
    · subst hr0
      have h9 : mv ad (.ref SID) = .ref b := by show Value.ref (ad SID) = .ref b; rw [I.2.2.2.1]
      rw [List.map_cons, h9]
      exact va_slen hx hb hHP.2.2.1 (Nat.lt_of_lt_of_le hHP.2.2.2.1 hHP.2.2.2.2) (Nat.not_le.mpr hHP.2.2.2.1) I.2.2.2.2.2.2.1 hdec (hi1 _ _ _ _ _ _ I hs hl)
    · have h9 : ∃ x', cvE ad cy (.inl (kd, n, x)) = .inl (cy kd, n, x') := by
        rcases x with f | f | f | f | f
        · exact ⟨_, rfl⟩
        · exact ⟨_, rfl⟩
        · exact ⟨_, rfl⟩
        · exact ⟨_, rfl⟩
        · exact ⟨_, rfl⟩
      obtain ⟨x', hx'⟩ := h9
      have hg := toW_get (ad := ad) (cy := cy) hr
      rw [hx'] at hg
      have hty : ∃ ty, (tyC cy)[kd]? = some (cy kd, ty) := by
        match kd, hk4 with
        | 0, _ => exact ⟨_, rfl⟩
        | 1, _ => exact ⟨_, rfl⟩
        | 2, _ => exact ⟨_, rfl⟩
        | 3, _ => exact ⟨_, rfl⟩
      obtain ⟨ty, hty⟩ := hty
      exact va_alen hx hb hVM.1 I.2.2.2.2.1 r kd hg hty rfl hdec (hi _ _ _ _ _ _ I hs hl)
  case newarray ty =>
    obtain rfl : len = 2 := eq_of_beq (a := len) (b := 2) hln
    obtain ⟨x, st1, rfl, hi⟩ := pI_spec hi
    obtain ⟨N, rfl, hN, hv, hi⟩ := hi
    obtain ⟨hal, hi⟩ := bb_spec hi
    obtain ⟨hv1, hv2, hv3, hv4⟩ := vld_spec hv
    have hbig : ∀ t : FieldType, componentBytes t ≤ 8 → N * componentBytes t ≤ 536870912 := fun t ht => Nat.le_trans (Nat.mul_le_mul (Nat.le_of_lt hN) ht) (by decide)
    cases ty
    all_goals first
      | exact False.elim hi
      | skip
    case int =>
      obtain ⟨h1, hN2, hi⟩ := sb_spec (akK_int hi)
      refine va_newa (atype := .int) (ty := .int) (a0 := (N, .inl (fun _ => 0))) hx hb (hts _ (hsub _ (hT.2.2.2 .int (by decide)) rfl)) rfl hVM.1 I.2.2.2.2.1 I.2.2.2.2.2.1 I.2.2.2.2.2.2.1 hA (fun cA => rfl) (nI_pos (by omega)) (nI_clamp (by omega)) (hbig _ (by decide)) (by have := I.2.2.2.2.2.2.2.1; omega) (by have := I.2.2.2.2.2.2.2.2; omega) hdec (fun q cA H1 hK1 hP1 hD1 hS1 => ?_)
      have hcA : cA = cy 0 := Option.some.inj ((show s.vm.findClass _ = some cA from (hK1.2 4 _ rfl).2).symm.trans (show s.vm.findClass _ = some (cy 0) from (hVM.1.2 0 _ rfl).2))
      subst hcA
      obtain ⟨I', hag⟩ := Inv.new (n := N) (a' := .inl (0, N, .inl (fun _ => 0))) hal I (Nat.lt_trans hv1 (by decide)) hv4 hP1 hD1 hS1 (by omega) hN2
      have hfin := hi _ _ _ _ _ _ I' hs (by rw [vv_mvl hag hv2]; exact hl)
      rw [List.map_cons, vv_mvs hag hv3] at hfin
      have h9 : mv (va_up ad h.length q) (.ref h.length) = .ref q := by show Value.ref (va_up ad h.length q h.length) = _; rw [va_up_self]
      rw [h9] at hfin
      exact hfin
    case long =>
      obtain ⟨h1, hN2, hi⟩ := sb_spec (akK_long hi)
      refine va_newa (atype := .long) (ty := .long) (a0 := (N, .inr (.inl (fun _ => 0)))) hx hb (hts _ (hsub _ (hT.2.2.2 .long (by decide)) rfl)) rfl hVM.1 I.2.2.2.2.1 I.2.2.2.2.2.1 I.2.2.2.2.2.2.1 hA (fun cA => rfl) (nI_pos (by omega)) (nI_clamp (by omega)) (hbig _ (by decide)) (by have := I.2.2.2.2.2.2.2.1; omega) (by have := I.2.2.2.2.2.2.2.2; omega) hdec (fun q cA H1 hK1 hP1 hD1 hS1 => ?_)
      have hcA : cA = cy 1 := Option.some.inj ((show s.vm.findClass _ = some cA from (hK1.2 4 _ rfl).2).symm.trans (show s.vm.findClass _ = some (cy 1) from (hVM.1.2 1 _ rfl).2))
      subst hcA
      obtain ⟨I', hag⟩ := Inv.new (n := N) (a' := .inl (1, N, .inr (.inl (fun _ => 0)))) hal I (Nat.lt_trans hv1 (by decide)) hv4 hP1 hD1 hS1 (by omega) hN2
      have hfin := hi _ _ _ _ _ _ I' hs (by rw [vv_mvl hag hv2]; exact hl)
      rw [List.map_cons, vv_mvs hag hv3] at hfin
      have h9 : mv (va_up ad h.length q) (.ref h.length) = .ref q := by show Value.ref (va_up ad h.length q h.length) = _; rw [va_up_self]
      rw [h9] at hfin
      exact hfin
    case boolean =>
      obtain ⟨h1, hN2, hi⟩ := sb_spec (akK_boolean hi)
      refine va_newa (atype := .boolean) (ty := .boolean) (a0 := (N, .inl (fun _ => 0))) hx hb (hts _ (hsub _ (hT.2.2.2 .boolean (by decide)) rfl)) rfl hVM.1 I.2.2.2.2.1 I.2.2.2.2.2.1 I.2.2.2.2.2.2.1 hA (fun cA => rfl) (nI_pos (by omega)) (nI_clamp (by omega)) (hbig _ (by decide)) (by have := I.2.2.2.2.2.2.2.1; omega) (by have := I.2.2.2.2.2.2.2.2; omega) hdec (fun q cA H1 hK1 hP1 hD1 hS1 => ?_)
      have hcA : cA = cy 2 := Option.some.inj ((show s.vm.findClass _ = some cA from (hK1.2 4 _ rfl).2).symm.trans (show s.vm.findClass _ = some (cy 2) from (hVM.1.2 2 _ rfl).2))
      subst hcA
      obtain ⟨I', hag⟩ := Inv.new (n := N) (a' := .inl (2, N, .inl (fun _ => 0))) hal I (Nat.lt_trans hv1 (by decide)) hv4 hP1 hD1 hS1 (by omega) hN2
      have hfin := hi _ _ _ _ _ _ I' hs (by rw [vv_mvl hag hv2]; exact hl)
      rw [List.map_cons, vv_mvs hag hv3] at hfin
      have h9 : mv (va_up ad h.length q) (.ref h.length) = .ref q := by show Value.ref (va_up ad h.length q h.length) = _; rw [va_up_self]
      rw [h9] at hfin
      exact hfin
  case anewarray idx =>
    obtain rfl : len = 3 := eq_of_beq (a := len) (b := 3) hln
    obtain ⟨x, st1, rfl, hi⟩ := pI_spec hi
    obtain ⟨N, rfl, hN, hv, hcl, hi⟩ := hi
    obtain ⟨hal, hi⟩ := bb_spec hi
    obtain ⟨hv1, hv2, hv3, hv4⟩ := vld_spec hv
    obtain ⟨h1, hN2, hi⟩ := sb_spec hi
    have hlk : (Cond.classLink (mOwn mi) idx RX2).before args s = true := hw _ (by
      unfold needB
      exact List.mem_append_left _ (List.mem_append_left _ (List.mem_append_left _ (List.mem_append_right _ (List.mem_flatMap.mpr ⟨(idx, 2), lk_mem hcl, List.mem_cons_self⟩)))))
    refine va_newq hx hb hown hlk hVM.2.2.2.2.1 hVM.1 I.2.2.2.2.1 I.2.2.2.2.2.1 I.2.2.2.2.2.2.1 hA (nI_pos (by omega)) (nI_clamp (by omega)) (by omega) (by have := I.2.2.2.2.2.2.2.1; omega) (by have := I.2.2.2.2.2.2.2.2; omega) hdec (fun q cA H1 hK1 hP1 hD1 hS1 => ?_)
    have hcA : cA = cy 3 := by
      obtain ⟨-, -, -, -, -, h8⟩ := (hK1.2 4 _ rfl).2
      obtain ⟨-, -, -, -, -, h9⟩ := (hVM.1.2 3 _ rfl).2
      exact Option.some.inj (h8.symm.trans h9)
    subst hcA
    obtain ⟨I', hag⟩ := Inv.new (n := N) (a' := .inl (3, N, .inr (.inr (.inr (.inr (fun _ => none)))))) hal I (Nat.lt_trans hv1 (by decide)) hv4 hP1 hD1 hS1 (by omega) hN2
    have hfin := hi _ _ _ _ _ _ I' hs (by rw [vv_mvl hag hv2]; exact hl)
    rw [List.map_cons, vv_mvs hag hv3] at hfin
    have h9 : mv (va_up ad h.length q) (.ref h.length) = .ref q := by show Value.ref (va_up ad h.length q h.length) = _; rw [va_up_self]
    rw [h9] at hfin
    exact hfin
  case new idx =>
    obtain rfl : len = 3 := eq_of_beq (a := len) (b := 3) hln
    replace hi : oE (lk (mTr mi) pc) _ _ := hi
    replace htg : (match lk (mTr mi) pc with
        | some (_, ik', is, ic, _) => Nat.beq idx ik' && decide (decode (mCd mi) (pc + 3) = .ok (.dup, 1)) && decide (decode (mCd mi) (pc + 4) = .ok (.ldc is, 2)) && decide (decode (mCd mi) (pc + 6) = .ok (.invokespecial ic, 3)) && decide (decode (mCd mi) (pc + 9) = .ok (.athrow, 1))
        | none => true) = true := htg
    cases htr : lk (mTr mi) pc with
    | some q0 =>
      obtain ⟨E, ik, is, ic, tx⟩ := q0
      rw [htr] at hi htg
      simp only [Bool.and_eq_true, decide_eq_true_eq] at htg
      obtain ⟨⟨⟨⟨t0, t3⟩, t4⟩, t6⟩, t9⟩ := htg
      obtain rfl : idx = ik := Nat.eq_of_beq_eq_true t0
      obtain ⟨hD5, hwt, hi⟩ := (hi : 5 ≤ D ∧ wt st ≤ 8 ∧ sb rc 1 (fun _ => sb rs 6 (fun _ => mTh mi = true ∧ Q (.inr E) h)))
      obtain ⟨h1, hi⟩ := sb_spec hi
      obtain ⟨h2, hTh, hQ⟩ := sb_spec hi
      exact (hthr hTh).1 pc E idx is ic tx ad H locs cells slots h rc rs ls st htr hdec t3 t4 t6 t9 hD5 hwt h1 h2 hQ I hlsz
    | none =>
      rw [htr] at hi
      obtain ⟨ci, hcl, hi⟩ := oK_spec (show oK (lk (mCl mi) idx) _ from hi)
      obtain ⟨fs, hfs, hv, hi⟩ := oK_spec hi
      obtain ⟨hal, hi⟩ := bb_spec hi
      obtain ⟨hv1, hv2, hv3, hv4⟩ := vld_spec hv
      obtain ⟨h1, hi⟩ := sb_spec hi
      obtain ⟨h2, hi⟩ := sb_spec hi
      have hclm : (idx, ci) ∈ mCl mi := lk_mem hcl
      have hci : ci < 5 := by
        have h9 := hflo
        unfold flOK at h9
        simp only [Bool.and_eq_true] at h9
        have h8 := List.all_eq_true.mp h9.1.2 _ hclm
        simpa using h8
      have hmem : ∀ w ∈ [Cond.classLink (mOwn mi) idx (cTn ci).1, .instantiable (cTn ci).1 (cTn ci).2.2, .initialized (cTn ci).1], w.before args s = true := fun w hw9 => hw _ (by
        unfold needB
        exact List.mem_append_left _ (List.mem_append_left _ (List.mem_append_left _ (List.mem_append_right _ (List.mem_flatMap.mpr ⟨(idx, ci), hclm, hw9⟩)))))
      have hin : ∀ w ∈ u_ws (cTn ci).1 (cTn ci).2.1 (cTn ci).2.2, w ∈ Ts := fun w hw9 => hsub w (hT.2.2.1 ci hci w hw9).1 (hT.2.2.1 ci hci w hw9).2
      obtain ⟨hfl, hdf⟩ := cT_len ci hci fs hfs
      refine va_new (ci := ci) (fs := fs) (C := (cTn ci).1) (T := (cTn ci).2.1) (N := (cTn ci).2.2) hx hb hts hin (cTy ci) (cT_ty ci hci) hown (hmem _ List.mem_cons_self) (hmem _ (List.mem_cons_of_mem _ List.mem_cons_self)) (hmem _ (List.mem_cons_of_mem _ (List.mem_cons_of_mem _ List.mem_cons_self))) hVM.1 I.2.2.2.2.1 I.2.2.2.2.2.1 I.2.2.2.2.2.2.1 hA (cT_get ci hci) hdf (by have := I.2.2.2.2.2.2.2.1; omega) (by have := I.2.2.2.2.2.2.2.2; omega) hdec (fun q H1 hP1 hD1 hS1 => ?_)
      have hcv : (Sum.inr (ci, fs) : va_E) = cvE (va_up ad h.length q) cy (.inr (ci, fs)) := by
        show (Sum.inr (ci, fs) : va_E) = Sum.inr (ci, fs.map (mv (va_up ad h.length q)))
        rw [df_mv hci hfs]
      rw [hcv] at hP1 hD1
      rw [← hfl]
      obtain ⟨I', hag⟩ := Inv.new (n := fs.length) (a' := .inr (ci, fs)) hal I (Nat.lt_trans hv1 (by decide)) hv4 hP1 hD1 hS1 (by omega) h2
      have hfin := hi _ _ _ _ _ _ I' hs (by rw [vv_mvl hag hv2]; exact hl)
      rw [List.map_cons, vv_mvs hag hv3] at hfin
      have h9 : mv (va_up ad h.length q) (.ref h.length) = .ref q := by show Value.ref (va_up ad h.length q h.length) = _; rw [va_up_self]
      rw [h9] at hfin
      exact hfin
  case invokevirtual idx =>
    obtain rfl : len = 3 := eq_of_beq (a := len) (b := 3) hln
    obtain ⟨k, hkl, hi⟩ := oK_spec hi
    obtain ⟨mj, hmj, hi⟩ := oK_spec hi
    obtain ⟨As, st1, rfl, hAs, hi⟩ := pN_spec hi
    obtain ⟨r, st2, rfl, hi⟩ := pR_spec hi
    obtain ⟨fs, hr, hwt, hi⟩ := hi
    obtain ⟨hfg, hi⟩ := bb_spec hi
    simp only [Bool.and_eq_true, Bool.not_eq_true'] at hfg
    obtain ⟨hmc, hi⟩ := sb_spec hi
    obtain ⟨hms, hi⟩ := sb_spec hi
    rw [List.append_nil] at hi
    have hk157 : k < 157 := by
      have h9 := hflo
      unfold flOK at h9
      simp only [Bool.and_eq_true] at h9
      have h8 := List.all_eq_true.mp h9.2 _ (lk_mem hkl)
      simp only [Bool.and_eq_true, Bool.or_eq_true] at h8
      have hlt : k < 158 := (List.getElem?_eq_some_iff.mp (nth_get hmj)).1
      rcases h8.1 with (h7 | h7) | h7
      · exact Nat.le_of_ble_eq_true h7
      · have := Nat.eq_of_beq_eq_true h7; omega
      · have := Nat.eq_of_beq_eq_true h7; omega
    obtain ⟨hbj1, hbj2, hbj3, hnmj, hbj5⟩ := hT.1 mj (nth_mem hmj)
    unfold nmOK at hnmj
    simp only [Bool.and_eq_true, decide_eq_true_eq] at hnmj
    obtain ⟨⟨⟨⟨⟨⟨⟨⟨⟨⟨j1, j2⟩, j3⟩, j4⟩, j5⟩, j6⟩, j7⟩, j8⟩, j9⟩, j10⟩, j11⟩ := hnmj
    have j6 : mLo mj ≤ 19 := Nat.le_of_ble_eq_true j6
    have hneedj := hT.2.1 k mj hk157 hmj
    have hnst : isNest mi idx = true → mNm mj = yX3_commonDivisor ∧ mSt mj = true ∧ mHh mj = [] := fun hh => by
      have h9 := hflo
      unfold flOK at h9
      simp only [Bool.and_eq_true] at h9
      have h8 := List.all_eq_true.mp h9.2 _ (lk_mem hkl)
      simp only [hh, hmj, Bool.and_eq_true, decide_eq_true_eq, Bool.not_true, Bool.false_or, Option.map_some] at h8
      exact ⟨Option.some.inj h8.2.1.1, Option.some.inj h8.2.1.2, List.length_eq_zero_iff.mp (Option.some.inj h8.2.2)⟩
    have hlink : isNest mi idx = false → ∀ w ∈ [Cond.methodLink (mOwn mi) idx (mNm mj)], w ∈ lw_tbl ∧ goodWord w = true := fun hns w hw9 => hneed w (by
      unfold needB
      refine List.mem_append_left _ (List.mem_append_left _ (List.mem_append_left _ (List.mem_append_left _ (List.mem_append_left _ (List.mem_flatMap.mpr ⟨(idx, k), lk_mem hkl, ?_⟩)))))
      unfold ndL
      have e1 : Nat.beq k 999 = false := by cases hh : Nat.beq k 999 with
        | false => rfl
        | true => have := Nat.eq_of_beq_eq_true hh; omega
      have e2 : Nat.beq k 998 = false := by cases hh : Nat.beq k 998 with
        | false => rfl
        | true => have := Nat.eq_of_beq_eq_true hh; omega
      simp only [e1, e2, hns, hmj]
      exact hw9)
    have hM := hcall k mj (.ref r :: As) h _ ad hmj hk157 hi
    have hpre : ∀ (as : List Value) (U : State), U.heap = H → s.WarmedH U.vm → PcM dC dI cy sa B b sc ad as h (as.map (mv ad)).toArray U := fun as U hU hW => ⟨rfl, hVM.warm hW, by rw [hU]; exact hHP.keep I.2.2.2.2.2.2.1 hW.alike, by rw [hU]; exact I.2.2.2.2.1, I.2.2.2.2.2.1, I.2.2.2.1⟩
    have hroom : cells + mMc mj ≤ R.cells ∧ slots + mMs mj ≤ R.slots := ⟨by have := I.2.2.2.2.2.2.2.1; omega, by have := I.2.2.2.2.2.2.2.2; omega⟩
    have hRj : (rmM D mj).frames + 1 ≤ R.frames ∧ 8 + (mLo mj + 11) + (rmM D mj).locals ≤ R.locals := ⟨hfr, by show 8 + (mLo mj + 11) + 38 * D ≤ R.locals; omega⟩
    have hhj : mHh mj = [] := by
      cases hh : mHh mj with
      | nil => rfl
      | cons a1 a2 => have := j11 (by rw [hh]; exact List.cons_ne_nil _ _); rw [hfg.1] at this; cases this
    have hcn : mCn mj < 5 := by
      have h9 := (List.getElem?_eq_some_iff.mp (toW_get_obj (ad := ad) (cy := cy) hr)).1
      obtain ⟨rr, hrr, -⟩ := I.2.2.2.2.1 r _ (toW_get_obj hr)
      exact (List.getElem?_eq_some_iff.mp hrr).1
    have hown2 := j9 hcn
    have hns : isNest mi idx = false := by
      cases hh : isNest mi idx with
      | false => rfl
      | true => have := (hnst hh).2.1; rw [hfg.1] at this; cases this
    have hGood : GoodIn Ts (wsV (mOwn mi) idx (mOwn mj) (mNm mj) (wsM mj)) := goodTs hsub (fun w hw9 => by
      unfold wsV at hw9
      rcases List.mem_append.mp hw9 with h9 | h9
      · rcases List.mem_cons.mp h9 with rfl | h9
        · exact hlink hns _ List.mem_cons_self
        · refine hneedj w (List.mem_append_left _ ?_)
          rw [hfg.1, hfg.2]
          rcases List.mem_cons.mp h9 with rfl | h9
          · exact List.mem_cons_of_mem _ (List.mem_cons_of_mem _ List.mem_cons_self)
          · rcases List.mem_cons.mp h9 with rfl | h9
            · exact List.mem_cons_of_mem _ (List.mem_cons_of_mem _ (List.mem_cons_of_mem _ List.mem_cons_self))
            · rcases List.mem_cons.mp h9 with rfl | h9
              · exact List.mem_cons_of_mem _ List.mem_cons_self
              · cases h9
      · exact wsM_good hneedj w h9)
    have hcw := cwV (R := R) (s := s) (args := args) (rm := rmM D mj) (mc := mMc mj) (ms := mMs mj) (mNp mj) hts hGood (show wsM mj = Cond.code (mNm mj) (mCd mj) (mLo mj) (mRt mj) :: GW by unfold wsM codeW; rw [hhj]) rfl rfl ⟨j1, by rw [j1]; exact j3, by rw [j1]; exact j4, j5⟩ hRj
    have hrecv := va_recv (s := s) hVM.1 I.2.2.2.2.1 (cT_get _ hcn) (toW_get_obj hr)
    rw [hown2] at hrecv
    have hrun := vx_runV (e := e) (below := below) (meth := meth) (locs := locs) (rest := st2.map (mv ad)) (As := As.map (mv ad)) (g := F0 m pc ls ((As.reverse ++ .ref r :: st2).map (mv ad))) ⟨hx, hb, hml, hown, hts⟩ hM hcw ⟨PcM.blind, hrecv, fun U hU hW => hpre (.ref r :: As) U hU hW⟩ rfl (by rw [List.length_map]; exact hAs) hlsz (by rw [List.map_append, List.map_reverse, List.map_cons]; rfl) (lv_room (by rw [wt_mv]; exact hwt)) hdec hroom
    exact call_cont C0 (hT.1 mi hmi) hthr hrun hmc hms (fun h9 => by rw [hfg.2] at h9; cases h9) I hs hl
  case invokestatic idx =>
    obtain rfl : len = 3 := eq_of_beq (a := len) (b := 3) hln
    obtain ⟨k, hkl, hi⟩ := oK_spec hi
    replace hi : bE (Nat.beq k 998) _ _ := hi
    cases hk8 : Nat.beq k 998 with
    | true =>
      rw [hk8] at hi
      obtain rfl : k = 998 := Nat.eq_of_beq_eq_true hk8
      obtain ⟨x, st1, rfl, hwt, hi⟩ := pL_spec hi
      have hwd : ∀ w ∈ [Cond.methodLink (mOwn mi) idx Lib.MathLoose.abs_long.x, .static Lib.MathLoose.abs_long.x, .initialized "java/lang/Math", .code Lib.MathLoose.abs_long.x Lib.MathLoose.abs_long.code 2 (some .long)], w.before args s = true := fun w hw9 => hw w (by
        unfold needB
        exact List.mem_append_left _ (List.mem_append_left _ (List.mem_append_left _ (List.mem_append_left _ (List.mem_append_left _ (List.mem_flatMap.mpr ⟨(idx, 998), lk_mem hkl, hw9⟩))))))
      exact va_mabs_long hx hb (hml.trans hlsz.symm) hown (hwd _ List.mem_cons_self) (hwd _ (List.mem_cons_of_mem _ List.mem_cons_self)) (hwd _ (List.mem_cons_of_mem _ (List.mem_cons_of_mem _ List.mem_cons_self))) (hwd _ (List.mem_cons_of_mem _ (List.mem_cons_of_mem _ (List.mem_cons_of_mem _ List.mem_cons_self)))) (by omega) (by rw [wt_mv]; omega) (by have := I.2.2.2.2.2.2.2.1; omega) (by have := I.2.2.2.2.2.2.2.2; omega) hdec (hi _ _ _ _ _ _ I hs hl)
    | false =>
      rw [hk8] at hi
      obtain ⟨mj, hmj, hi⟩ := oK_spec (show oK (nth mtL k) _ from hi)
      obtain ⟨As, st2, rfl, hAs, hi⟩ := pN_spec hi
      obtain ⟨hwt, hi⟩ := hi
      obtain ⟨hfg, hi⟩ := bb_spec hi
      simp only [Bool.and_eq_true, Bool.not_eq_true'] at hfg
      obtain ⟨⟨hstj, halj⟩, hthj⟩ := hfg
      obtain ⟨hmc, hi⟩ := sb_spec hi
      obtain ⟨hms, hi⟩ := sb_spec hi
      rw [List.append_nil] at hi
      have hk157 : k < 157 := by
        have h9 := hflo
        unfold flOK at h9
        simp only [Bool.and_eq_true] at h9
        have h8 := List.all_eq_true.mp h9.2 _ (lk_mem hkl)
        simp only [Bool.and_eq_true, Bool.or_eq_true] at h8
        have hlt : k < 158 := (List.getElem?_eq_some_iff.mp (nth_get hmj)).1
        rcases h8.1 with (h7 | h7) | h7
        · exact Nat.le_of_ble_eq_true h7
        · have := Nat.eq_of_beq_eq_true h7; omega
        · have := Nat.eq_of_beq_eq_true h7; omega
      obtain ⟨hbj1, hbj2, hbj3, hnmj, hbj5⟩ := hT.1 mj (nth_mem hmj)
      unfold nmOK at hnmj
      simp only [Bool.and_eq_true, decide_eq_true_eq] at hnmj
      obtain ⟨⟨⟨⟨⟨⟨⟨⟨⟨⟨j1, j2⟩, j3⟩, j4⟩, j5⟩, j6⟩, j7⟩, j8⟩, j9⟩, j10⟩, j11⟩ := hnmj
      have j6 : mLo mj ≤ 19 := Nat.le_of_ble_eq_true j6
      have hneedj := hT.2.1 k mj hk157 hmj
      have hnst : isNest mi idx = true → mNm mj = yX3_commonDivisor ∧ mSt mj = true ∧ mHh mj = [] := fun hh => by
        have h9 := hflo
        unfold flOK at h9
        simp only [Bool.and_eq_true] at h9
        have h8 := List.all_eq_true.mp h9.2 _ (lk_mem hkl)
        simp only [hh, hmj, Bool.and_eq_true, decide_eq_true_eq, Bool.not_true, Bool.false_or, Option.map_some] at h8
        exact ⟨Option.some.inj h8.2.1.1, Option.some.inj h8.2.1.2, List.length_eq_zero_iff.mp (Option.some.inj h8.2.2)⟩
      have hlink : isNest mi idx = false → ∀ w ∈ [Cond.methodLink (mOwn mi) idx (mNm mj)], w ∈ lw_tbl ∧ goodWord w = true := fun hns w hw9 => hneed w (by
        unfold needB
        refine List.mem_append_left _ (List.mem_append_left _ (List.mem_append_left _ (List.mem_append_left _ (List.mem_append_left _ (List.mem_flatMap.mpr ⟨(idx, k), lk_mem hkl, ?_⟩)))))
        unfold ndL
        have e1 : Nat.beq k 999 = false := by cases hh : Nat.beq k 999 with
          | false => rfl
          | true => have := Nat.eq_of_beq_eq_true hh; omega
        have e2 : Nat.beq k 998 = false := by cases hh : Nat.beq k 998 with
          | false => rfl
          | true => have := Nat.eq_of_beq_eq_true hh; omega
        simp only [e1, e2, hns, hmj]
        exact hw9)
      have hM := hcall k mj As h _ ad hmj hk157 hi
      have hpre : ∀ (as : List Value) (U : State), U.heap = H → s.WarmedH U.vm → PcM dC dI cy sa B b sc ad as h (as.map (mv ad)).toArray U := fun as U hU hW => ⟨rfl, hVM.warm hW, by rw [hU]; exact hHP.keep I.2.2.2.2.2.2.1 hW.alike, by rw [hU]; exact I.2.2.2.2.1, I.2.2.2.2.2.1, I.2.2.2.1⟩
      have hroom : cells + mMc mj ≤ R.cells ∧ slots + mMs mj ≤ R.slots := ⟨by have := I.2.2.2.2.2.2.2.1; omega, by have := I.2.2.2.2.2.2.2.2; omega⟩
      have hRj : (rmM D mj).frames + 1 ≤ R.frames ∧ 8 + (mLo mj + 11) + (rmM D mj).locals ≤ R.locals := ⟨hfr, by show 8 + (mLo mj + 11) + 38 * D ≤ R.locals; omega⟩
      have hMet := met_of_vx (fun E st t hX => by
        obtain ⟨k9, h9, ad9, -, hq, -⟩ := hX
        have := hq.1
        rw [hthj] at this; cases this) hM
      have hwj : ∀ w ∈ [codeW mj, Cond.initialized (mOwn mj), .static (mNm mj)], w ∈ lw_tbl ∧ goodWord w = true := fun w hw9 => hneedj w (List.mem_append_left _ (by rw [hstj]; exact hw9))
      have hini9 : (Cond.initialized (mNm mj).cls).before args s = true := by
        rw [j1]
        have h9 := hwj _ (List.mem_cons_of_mem _ List.mem_cons_self)
        exact hts _ (hsub _ h9.1 h9.2)
      have hstat9 : (Cond.static (mNm mj)).before args s = true := by
        have h9 := hwj _ (List.mem_cons_of_mem _ (List.mem_cons_of_mem _ List.mem_cons_self))
        exact hts _ (hsub _ h9.1 h9.2)
      have hd9 : (mNm mj).cls ≠ "java/lang/invoke/MethodHandle" ∧ (mNm mj).cls ≠ "java/lang/invoke/VarHandle" ∧ (parseMethodDescriptor (mNm mj).desc).map (fun d => d.parameters.length) = some (mNp mj) := ⟨by rw [j1]; exact j3, by rw [j1]; exact j4, j5⟩
      have hstk : (F0 m pc ls ((As.reverse ++ st2).map (mv ad))).stack = (As.map (mv ad)).reverse ++ st2.map (mv ad) := by rw [List.map_append, List.map_reverse]
      cases hnest : isNest mi idx with
      | false =>
        have hl9 := hlink hnest _ List.mem_cons_self
        have hlk9 : (Cond.methodLink (mOwn mi) idx (mNm mj)).before args s = true := hts _ (hsub _ hl9.1 hl9.2)
        cases hhj : mHh mj with
        | nil =>
          have hcb := callB_of (R := R) (s := s) (args := args) (own := mOwn mi) (index := idx) (rm := rmM D mj) (mc := mMc mj) (ms := mMs mj) (mNp mj) hts (goodTs hsub (wsM_good hneedj)) (show wsM mj = Cond.code (mNm mj) (mCd mj) (mLo mj) (mRt mj) :: GW by unfold wsM codeW; rw [hhj]) rfl rfl hini9 hlk9 hd9 hRj
          have hrun := va_runS (e := e) (below := below) (meth := meth) (locs := locs) (rest := st2.map (mv ad)) (As := As.map (mv ad)) (g := F0 m pc ls ((As.reverse ++ st2).map (mv ad))) ⟨hx, hb, hml, hown, hts⟩ hMet ⟨hcb, hstat9⟩ ⟨PcM.blind, fun U hU hW => hpre As U hU hW⟩ rfl (by rw [List.length_map]; exact hAs) hlsz hstk (lv_room (by rw [wt_mv]; exact hwt)) hdec hroom
          exact call_cont C0 (hT.1 mi hmi) hthr (vx_of_va hrun) hmc hms (fun h9 => by rw [halj] at h9; cases h9) I hs hl
        | cons r0 rr =>
          have hcb := vx_cwSW (R := R) (s := s) (args := args) (own := mOwn mi) (index := idx) (hh := mHh mj) (rm := rmM D mj) (mc := mMc mj) (ms := mMs mj) (mNp mj) hts (goodTs hsub (fun w hw9 => by
            unfold va_wsS at hw9
            rcases List.mem_append.mp hw9 with h9 | h9
            · rcases List.mem_cons.mp h9 with rfl | h9
              · exact hlink hnest _ List.mem_cons_self
              · rcases List.mem_cons.mp h9 with rfl | h9
                · exact hwj _ (List.mem_cons_of_mem _ (List.mem_cons_of_mem _ List.mem_cons_self))
                · rcases List.mem_cons.mp h9 with rfl | h9
                  · rw [j1]; exact hwj _ (List.mem_cons_of_mem _ List.mem_cons_self)
                  · cases h9
            · exact wsM_good hneedj w h9)) (show wsM mj = Cond.codeWith (mNm mj) (mCd mj) (mLo mj) (mRt mj) (mHh mj) :: GW by unfold wsM codeW; rw [hhj]) rfl rfl hd9 hRj
          have hrun := vx_runSW (e := e) (below := below) (meth := meth) (locs := locs) (rest := st2.map (mv ad)) (As := As.map (mv ad)) (g := F0 m pc ls ((As.reverse ++ st2).map (mv ad))) ⟨hx, hb, hml, hown, hts⟩ hMet hcb ⟨PcM.blind, fun U hU hW => hpre As U hU hW⟩ rfl (by rw [List.length_map]; exact hAs) hlsz hstk (lv_room (by rw [wt_mv]; exact hwt)) hdec hroom
          exact call_cont C0 (hT.1 mi hmi) hthr (vx_of_va hrun) hmc hms (fun h9 => by rw [halj] at h9; cases h9) I hs hl
      | true =>
        have hn9 : mOwn mi = RX1 ∧ idx = 25 := by
          unfold isNest at hnest
          simp only [Bool.and_eq_true, decide_eq_true_eq] at hnest
          exact ⟨hnest.1, Nat.eq_of_beq_eq_true hnest.2⟩
        have hnm9 := (hnst hnest).1
        have hhj := (hnst hnest).2.2
        have hcb := va_cnB (R := R) (s := s) (args := args) (own := mOwn mi) (host := "ConvexDesk") (index := idx) (rm := rmM D mj) (mc := mMc mj) (ms := mMs mj) (mNp mj) hts (goodTs hsub (wsM_good hneedj)) (show wsM mj = Cond.code (mNm mj) (mCd mj) (mLo mj) (mRt mj) :: GW by unfold wsM codeW; rw [hhj]) rfl rfl (by rw [hn9.1, hn9.2, hnm9]; exact hVM.2.2.1) hini9 hd9 hRj
        have hrun := va_runSN (e := e) (below := below) (meth := meth) (locs := locs) (rest := st2.map (mv ad)) (As := As.map (mv ad)) (g := F0 m pc ls ((As.reverse ++ st2).map (mv ad))) ⟨hx, hb, hml, hown, hts⟩ hMet ⟨hcb, hstat9, trivial⟩ ⟨PcM.blind, fun U hU hW => hpre As U hU hW⟩ rfl (by rw [List.length_map]; exact hAs) hlsz hstk (lv_room (by rw [wt_mv]; exact hwt)) hdec hroom
        exact call_cont C0 (hT.1 mi hmi) hthr (vx_of_va hrun) hmc hms (fun h9 => by rw [halj] at h9; cases h9) I hs hl
  case invokespecial idx =>
    obtain rfl : len = 3 := eq_of_beq (a := len) (b := 3) hln
    obtain ⟨k, hkl, hi⟩ := oK_spec hi
    replace hi : bE (Nat.beq k 999) _ _ := hi
    cases hk9 : Nat.beq k 999 with
    | true =>
      rw [hk9] at hi
      obtain rfl : k = 999 := Nat.eq_of_beq_eq_true hk9
      obtain ⟨r, st1, rfl, hwt, hi⟩ := pR_spec hi
      have hwd : ∀ w ∈ [Cond.methodLink (mOwn mi) idx objectInit, .instanceMethod objectInit, .code objectInit ⟨#[0xb1]⟩ 1 none], w.before args s = true := fun w hw9 => hw w (by
        unfold needB
        exact List.mem_append_left _ (List.mem_append_left _ (List.mem_append_left _ (List.mem_append_left _ (List.mem_append_left _ (List.mem_flatMap.mpr ⟨(idx, 999), lk_mem hkl, hw9⟩))))))
      exact W.objInit (rest := st1.map (mv ad)) hx hb hown (hwd _ List.mem_cons_self) (hwd _ (List.mem_cons_of_mem _ List.mem_cons_self)) (hwd _ (List.mem_cons_of_mem _ (List.mem_cons_of_mem _ List.mem_cons_self))) rfl (hlsz.trans hml.symm) rfl hdec (by omega) (by rw [wt_mv]; show 2 * 0 + _ + 12 ≤ _; omega) (hi _ _ _ _ _ _ I hs hl)
    | false =>
      rw [hk9] at hi
      obtain ⟨mj, hmj, hi⟩ := oK_spec (show oK (nth mtL k) _ from hi)
      obtain ⟨As, st1, rfl, hAs, hi⟩ := pN_spec hi
      obtain ⟨r, st2, rfl, hi⟩ := pR_spec hi
      obtain ⟨hwt, hv, hi⟩ := hi
      obtain ⟨hfg, hi⟩ := bb_spec hi
      simp only [Bool.and_eq_true, Bool.not_eq_true'] at hfg
      obtain ⟨⟨⟨hali, halj⟩, hthj⟩, hstj⟩ := hfg
      obtain ⟨hmc, hi⟩ := sb_spec hi
      obtain ⟨hms, hi⟩ := sb_spec hi
      rw [List.append_nil] at hi
      have hk157 : k < 157 := by
        have h9 := hflo
        unfold flOK at h9
        simp only [Bool.and_eq_true] at h9
        have h8 := List.all_eq_true.mp h9.2 _ (lk_mem hkl)
        simp only [Bool.and_eq_true, Bool.or_eq_true] at h8
        have hlt : k < 158 := (List.getElem?_eq_some_iff.mp (nth_get hmj)).1
        rcases h8.1 with (h7 | h7) | h7
        · exact Nat.le_of_ble_eq_true h7
        · have := Nat.eq_of_beq_eq_true h7; omega
        · have := Nat.eq_of_beq_eq_true h7; omega
      obtain ⟨hbj1, hbj2, hbj3, hnmj, hbj5⟩ := hT.1 mj (nth_mem hmj)
      unfold nmOK at hnmj
      simp only [Bool.and_eq_true, decide_eq_true_eq] at hnmj
      obtain ⟨⟨⟨⟨⟨⟨⟨⟨⟨⟨j1, j2⟩, j3⟩, j4⟩, j5⟩, j6⟩, j7⟩, j8⟩, j9⟩, j10⟩, j11⟩ := hnmj
      have j6 : mLo mj ≤ 19 := Nat.le_of_ble_eq_true j6
      have hneedj := hT.2.1 k mj hk157 hmj
      have hnst : isNest mi idx = true → mNm mj = yX3_commonDivisor ∧ mSt mj = true ∧ mHh mj = [] := fun hh => by
        have h9 := hflo
        unfold flOK at h9
        simp only [Bool.and_eq_true] at h9
        have h8 := List.all_eq_true.mp h9.2 _ (lk_mem hkl)
        simp only [hh, hmj, Bool.and_eq_true, decide_eq_true_eq, Bool.not_true, Bool.false_or, Option.map_some] at h8
        exact ⟨Option.some.inj h8.2.1.1, Option.some.inj h8.2.1.2, List.length_eq_zero_iff.mp (Option.some.inj h8.2.2)⟩
      have hlink : isNest mi idx = false → ∀ w ∈ [Cond.methodLink (mOwn mi) idx (mNm mj)], w ∈ lw_tbl ∧ goodWord w = true := fun hns w hw9 => hneed w (by
        unfold needB
        refine List.mem_append_left _ (List.mem_append_left _ (List.mem_append_left _ (List.mem_append_left _ (List.mem_append_left _ (List.mem_flatMap.mpr ⟨(idx, k), lk_mem hkl, ?_⟩)))))
        unfold ndL
        have e1 : Nat.beq k 999 = false := by cases hh : Nat.beq k 999 with
          | false => rfl
          | true => have := Nat.eq_of_beq_eq_true hh; omega
        have e2 : Nat.beq k 998 = false := by cases hh : Nat.beq k 998 with
          | false => rfl
          | true => have := Nat.eq_of_beq_eq_true hh; omega
        simp only [e1, e2, hns, hmj]
        exact hw9)
      have hM := hcall k mj (.ref r :: As) h _ ad hmj hk157 hi
      have hpre : ∀ (as : List Value) (U : State), U.heap = H → s.WarmedH U.vm → PcM dC dI cy sa B b sc ad as h (as.map (mv ad)).toArray U := fun as U hU hW => ⟨rfl, hVM.warm hW, by rw [hU]; exact hHP.keep I.2.2.2.2.2.2.1 hW.alike, by rw [hU]; exact I.2.2.2.2.1, I.2.2.2.2.2.1, I.2.2.2.1⟩
      have hroom : cells + mMc mj ≤ R.cells ∧ slots + mMs mj ≤ R.slots := ⟨by have := I.2.2.2.2.2.2.2.1; omega, by have := I.2.2.2.2.2.2.2.2; omega⟩
      have hRj : (rmM D mj).frames + 1 ≤ R.frames ∧ 8 + (mLo mj + 11) + (rmM D mj).locals ≤ R.locals := ⟨hfr, by show 8 + (mLo mj + 11) + 38 * D ≤ R.locals; omega⟩
      have hMet := met_of_vx (fun E st t hX => by
        obtain ⟨k9, h9, ad9, -, hq, -⟩ := hX
        have := hq.1
        rw [hthj] at this; cases this) hM
      have hns : isNest mi idx = false := by
        cases hh : isNest mi idx with
        | false => rfl
        | true => have := (hnst hh).2.1; rw [hstj] at this; cases this
      have hhj : mHh mj = [] := by
        cases hh : mHh mj with
        | nil => rfl
        | cons a1 a2 => have := j11 (by rw [hh]; exact List.cons_ne_nil _ _); rw [hstj] at this; cases this
      have hinit : (mNm mj).name = "<init>" := by simpa [halj, hstj] using j7
      have hrt : mRt mj = none := by simpa [halj, hstj] using j8
      have hwj : ∀ w ∈ [codeW mj, Cond.initialized (mOwn mj), .instanceMethod (mNm mj)], w ∈ lw_tbl ∧ goodWord w = true := fun w hw9 => hneedj w (List.mem_append_left _ (by rw [hstj, halj]; exact hw9))
      have hl9 := hlink hns _ List.mem_cons_self
      have hlk9 : (Cond.methodLink (mOwn mi) idx (mNm mj)).before args s = true := hts _ (hsub _ hl9.1 hl9.2)
      have hini9 : (Cond.initialized (mNm mj).cls).before args s = true := by
        rw [j1]
        have h9 := hwj _ (List.mem_cons_of_mem _ List.mem_cons_self)
        exact hts _ (hsub _ h9.1 h9.2)
      have hinst9 : (Cond.instanceMethod (mNm mj)).before args s = true := by
        have h9 := hwj _ (List.mem_cons_of_mem _ (List.mem_cons_of_mem _ List.mem_cons_self))
        exact hts _ (hsub _ h9.1 h9.2)
      have hcb := callB_of (R := R) (s := s) (args := args) (own := mOwn mi) (index := idx) (rm := rmM D mj) (mc := mMc mj) (ms := mMs mj) (ret := none) (mNp mj) hts (goodTs hsub (wsM_good hneedj)) (show wsM mj = Cond.code (mNm mj) (mCd mj) (mLo mj) none :: GW by unfold wsM codeW; rw [hhj, hrt]) rfl rfl hini9 hlk9 ⟨by rw [j1]; exact j3, by rw [j1]; exact j4, j5⟩ hRj
      have hrun := va_runI (e := e) (below := below) (meth := meth) (locs := locs) (rest := st2.map (mv ad)) (As := As.map (mv ad)) (b := ad r) (g := F0 m pc ls ((As.reverse ++ .ref r :: st2).map (mv ad))) ⟨hx, hb, hml, hown, hts⟩ hMet ⟨hcb, hinit, hinst9⟩ ⟨PcM.blind, fun U hU hW => hpre (.ref r :: As) U hU hW⟩ rfl (by rw [List.length_map]; exact hAs) hlsz (by rw [List.map_append, List.map_reverse, List.map_cons]; rfl) (lv_room (by rw [wt_mv]; exact hwt)) hdec hroom
      exact call_cont C0 (hT.1 mi hmi) hthr (vx_of_va hrun) hmc hms (fun _ => ⟨hali, hv⟩) I hs hl
  case ireturn =>
    obtain rfl : len = 1 := eq_of_beq (a := len) (b := 1) hln
    obtain ⟨x, st1, rfl, hi⟩ := pI_spec hi
    obtain ⟨rfl, hi⟩ := pE_spec hi
    obtain ⟨ht, hQ⟩ := rtI_spec hi
    refine hret pc .ireturn (some (.int x)) ad H locs cells slots h rc rs ls hdec ?_ hQ I
    rcases ht with ht | ⟨ht, hx9⟩
    · rw [ht]; trivial
    · rw [ht]; exact hx9
  case lreturn =>
    obtain rfl : len = 1 := eq_of_beq (a := len) (b := 1) hln
    obtain ⟨x, st1, rfl, hi⟩ := pL_spec hi
    obtain ⟨rfl, hi⟩ := pE_spec hi
    obtain ⟨ht, hQ⟩ := rtL_spec hi
    exact hret pc .lreturn (some (.long x)) ad H locs cells slots h rc rs ls hdec (by rw [ht]; trivial) hQ I
  case areturn =>
    obtain rfl : len = 1 := eq_of_beq (a := len) (b := 1) hln
    obtain ⟨x, st1, rfl, hi⟩ := pR_spec hi
    obtain ⟨rfl, hi⟩ := pE_spec hi
    obtain ⟨⟨nm, ht⟩, hQ⟩ := rtA_spec hi
    exact hret pc .areturn (some (.ref x)) ad H locs cells slots h rc rs ls hdec (by rw [ht]; trivial) hQ I
  case return_ =>
    obtain rfl : len = 1 := eq_of_beq (a := len) (b := 1) hln
    obtain ⟨rfl, hi⟩ := pE_spec hi
    obtain ⟨ht, hQ⟩ := rtV_spec hi
    exact hret pc .return_ none ad H locs cells slots h rc rs ls hdec (by rw [ht]; trivial) hQ I
end STEPM
