def exCh : List String := ["java/lang/RuntimeException", "java/lang/Exception"]
def atE (E : Nat) : List Cond := vx_atS RX3 (icL.getD E 0) (exNm E) exCh
/-- what is beside the words that keep themselves, in a throw -/
def oddE (E : Nat) : List Cond := .castable (exNm E) (exNm E) :: dclL.map .declares
theorem atE_odd : ((List.range 5).all fun E => ((atE E).filter (fun w => !goodWord w)).all fun w => decide (w ∈ oddE E)) = true := by decide +kernel
theorem atE_ot : ((List.range 5).all fun E => (atE E).all vx_ot) = true := by decide +kernel
theorem exN_fit : ((List.range 5).all fun E => Bundle.fit (exNm E)) = true := by decide +kernel
theorem exCh_fit : exCh.all Bundle.fit = true := by decide +kernel
def TblX : Prop := ∀ E, E < 5 → ∀ w ∈ (atE E).filter goodWord, w ∈ lw_tbl
theorem exNm_get {E : Nat} (h : E < 5) : exN[E]? = some (exNm E) ∧ exNm E ∈ exN := by
  match E, h with
  | 0, _ => exact ⟨rfl, by decide⟩
  | 1, _ => exact ⟨rfl, by decide⟩
  | 2, _ => exact ⟨rfl, by decide⟩
  | 3, _ => exact ⟨rfl, by decide⟩
  | 4, _ => exact ⟨rfl, by decide⟩
section SOUND
variable {l : Launch} {dC : Nat → ClassId} {dI : Nat → Nat → Nat} {cy : Nat → ClassId} {sa : Nat → Nat} {B b : Nat} {sc : Scr}
set_option maxHeartbeats 4000000 in
/-- the body of a method -/
theorem body_sound (hT : TblOK) (hX : TblX) (hst : l.stackTraces = false) {D k : Nat} {mj : MI} {as : List Value} {h : PH} {Q : Out → PH → Prop} {ad : Nat → Nat} (hmj : nth mtL k = some mj)
    (ih : ∀ (k : Nat) (mj : MI) (as : List Value) (h : PH) (Q : Out → PH → Prop) (ad : Nat → Nat), nth mtL k = some mj → k < 157 → wpC sc D k as h Q → vx_Met l (mNm mj) (wsM mj) (rmM D mj) (PcM dC dI cy sa B b sc ad as h) (QcM dC dI cy B (mAl mj) h.length ad (qth (mTh mj) Q)) (XcM dC dI cy B (mAl mj) h.length ad (qth (mTh mj) Q)) (mMc mj) (mMs mj) (AB B))
    (hw : wpC sc (D + 1) k as h Q) {p : Program} {e : Env} {s : State} {m : MethodId} {args : Array Value} {below : List Frame} {meth : Method} {c : Code} {s₁ : State}
    (B0 : BodyLoose p l (mNm mj) (headSpec (wsM mj) (rmM (D + 1) mj)) (mCd mj) (mLo mj) (mRt mj) e s m args below meth c s₁) (hml : c.maxLocals = mLo mj) (hexc : c.exceptionTable.toList = tableOf (mHh mj)) (hPc : PcM dC dI cy sa B b sc ad as h args s) :
    W p l e (headSpec (wsM mj) (rmM (D + 1) mj)).room s m args below meth c s.heap [] 0 0 (vx_MQ below (QcM dC dI cy B (mAl mj) h.length ad (qth (mTh mj) Q)) (XcM dC dI cy B (mAl mj) h.length ad (qth (mTh mj) Q)) args s (mMc mj) (mMs mj) (AB B)) (entryFrame m args (mLo mj)) := by
  obtain ⟨rfl, hVM, hHP, hP, hD, hSID⟩ := hPc
  have hmem : mj ∈ mtL := nth_mem hmj
  obtain ⟨hneed, hrows, hflo, hnmo, htho⟩ := id (hT.1 mj hmem)
  have hnmj := hnmo
  unfold nmOK at hnmj
  simp only [Bool.and_eq_true, decide_eq_true_eq] at hnmj
  obtain ⟨⟨⟨⟨⟨⟨⟨⟨⟨⟨j1, j2⟩, j3⟩, j4⟩, j5⟩, j6⟩, j7⟩, j8⟩, j9⟩, j10⟩, j11⟩ := hnmj
  have hts : ∀ w ∈ wsM mj, w.before _ s = true := atoms_spec (ws := wsM mj) B0.pre
  have hown : s.vm.findClass (mOwn mj) = some m.cls := by rw [← j1]; exact findClass_of_methodNamed B0.named
  have hsub : ∀ w, w ∈ lw_tbl → goodWord w = true → w ∈ wsM mj := fun w h1 h2 => List.mem_cons_of_mem _ (List.mem_filter.mpr ⟨h1, h2⟩)
  have C0 : Ctx p (headSpec (wsM mj) (rmM (D + 1) mj)).room s m ((as.map (mv ad)).toArray) meth c dC dI cy sa B b sc D mj (wsM mj) :=
    ⟨B0.exec, B0.bytes, hml, hown, hts, hsub, B0.notSynchronized, Nat.le_refl _, Nat.le_refl _, hVM, hHP, fun h1 h2 => by
      have h9 := (name_of_methodNamed B0.named B0.method).1
      rw [h9]
      simpa [h1, h2] using j7, fun _ => hexc⟩
  obtain ⟨mi, hmi, hwt, hw⟩ := oK_spec (show oK (nth mtL k) _ from hw)
  obtain rfl : mj = mi := Option.some.inj (hmj.symm.trans hmi)
  obtain ⟨lv, hr, hs, -, hlv⟩ := la_spec hw
  have hl := lv_entry (as.map (mv ad)) (n := mLo mj) (by rw [sl_len]; have := wt_mv ad as; unfold wt at this ⊢; rw [this]; exact hwt)
  rw [lg_entry_eq]
  generalize (lg_sl (as.map (mv ad)) ++ List.replicate (mLo mj - (lg_sl (as.map (mv ad))).length) Slot.unset).toArray = ls at hl ⊢
  have hl : lv_has ls (mLo mj) (mvl ad lv) := by rw [hlv, mvl_args]; exact hl
  have hx := B0.exec
  have hb := B0.bytes
  have hret0 := B0.returns
  have hlocks := B0.notSynchronized
  have key := hr (Sim p l e (headSpec (wsM mj) (rmM (D + 1) mj)).room s m ((as.map (mv ad)).toArray) below meth c dC dI cy B b mj h.length ad (vx_MQ below (QcM dC dI cy B (mAl mj) h.length ad (qth (mTh mj) Q)) (XcM dC dI cy B (mAl mj) h.length ad (qth (mTh mj) Q)) ((as.map (mv ad)).toArray) s (mMc mj) (mMs mj) (AB B)))
    (fun pc2 lv2 st2 h2 rc2 rs2 hstp => sim_step hT hmem C0 ih ?_ ?_ pc2 lv2 st2 h2 rc2 rs2 hstp)
  · exact key ad s.heap [] 0 0 ls ⟨fun _ => rfl, fun _ _ => rfl, Nat.le_refl _, hSID, hP, hD, va_S.rf, by show 0 + mMc mj ≤ mMc mj; omega, by show 0 + mMs mj ≤ mMs mj; omega⟩ hs hl
  · intro pc i v ad' H locs cells slots h' rc rs ls' hdec hok hQ I
    obtain ⟨i1, i2, i3, i4, i5, i6, i7, i8, i9⟩ := I
    have hc : cells ≤ mMc mj := by have : cells + rc ≤ mMc mj := i8; omega
    have hsl : slots ≤ mMs mj := by have : slots + rs ≤ mMs mj := i9; omega
    refine W.widen hc hsl (vx_ret ?_)
    have hq : ∀ t : State, t.heap = H → QcM dC dI cy B (mAl mj) h.length ad (qth (mTh mj) Q) ((as.map (mv ad)).toArray) s (.returned (v.map (mv ad'))) t := fun t ht => ⟨v, h', ad', rfl, hQ, i1, i2, i3, by rw [ht]; exact i5, i6, i7.F ht⟩
    unfold rOK at hok
    split at hok
    · rename_i x hrt
      exact W.iret hx hb (hret0.trans hrt) (fun t ht _ => hq t ht) i7.2.2 hdec
    · rename_i x hrt
      refine W.zret hx hb (hret0.trans hrt) ?_ (fun t ht _ => hq t ht) i7.2.2 hdec
      rcases hok with rfl | rfl <;> rfl
    · rename_i x hrt
      exact W.lret hx hb (hret0.trans hrt) (fun t ht _ => hq t ht) i7.2.2 hdec
    · rename_i nm x hrt
      exact W.aret hx hb (hret0.trans hrt) (Or.inl ⟨_, rfl⟩) (Or.inr ⟨_, rfl⟩) (fun t ht _ => hq t ht) i7.2.2 hdec
    · rename_i hrt
      exact W.vret hx hb (hret0.trans hrt) (fun t ht _ => hq t ht) i7.2.2 hdec
    · cases hok
  · intro hth
    have hhe : mHh mj = [] := j10 hth
    have hexe : ∀ x ∈ c.exceptionTable.toList, False := fun x hx9 => by rw [hexc, hhe] at hx9; cases hx9
    refine ⟨?_, ?_⟩
    · intro pc E ik is ic tx ad' H locs cells slots h' rc rs ls' st htr d0 d3 d4 d6 d9 hD5 hwt8 hrc1 hrs6 hQ I hsz
      obtain ⟨i1, i2, i3, i4, i5, i6, i7, i8, i9⟩ := I
      have i8' : cells + rc ≤ mMc mj := i8
      have i9' : slots + rs ≤ mMs mj := i9
      have htrm : (pc, E, ik, is, ic, tx) ∈ mTr mj := lk_mem htr
      have hth9 := htho
      unfold thOK at hth9
      simp only [Bool.and_eq_true] at hth9
      have h9 := List.all_eq_true.mp hth9.1.2 _ htrm
      simp only [Bool.and_eq_true, decide_eq_true_eq] at h9
      obtain ⟨⟨⟨hown3, hE5⟩, hstrm⟩, hic⟩ := h9
      have hE5 : E < 5 := hE5
      have hic : ic = icL.getD E 0 := hic
      obtain ⟨hEg, hEm⟩ := exNm_get hE5
      have hwd : ∀ w ∈ [Cond.classLink (mOwn mj) ik (exNm E), .initialized (exNm E)], w.before ((as.map (mv ad)).toArray) s = true := fun w hw9 => by
        have h8 := hneed w (by
          unfold needB
          exact List.mem_append_left _ (List.mem_append_right _ (List.mem_flatMap.mpr ⟨(pc, E, ik, is, ic, tx), htrm, hw9⟩)))
        exact hts w (hsub w h8.1 h8.2)
      have hat : ∀ w ∈ atE E, w.before ((as.map (mv ad)).toArray) s = true := by
        refine vx_hat (B := oddE E) (fun w hw9 => hts w (hsub w (hX E hE5 w hw9) (List.mem_filter.mp hw9).2)) (fun w hw9 => ?_) (fun w hw9 => ?_)
        · have h8 := List.all_eq_true.mp (List.all_eq_true.mp atE_odd E (List.mem_range.mpr hE5)) w hw9
          simpa using h8
        · unfold oddE at hw9
          rcases List.mem_cons.mp hw9 with rfl | hw9
          · exact va_Nw.use rfl (hVM.2.2.2.2.2.1 _ hEm)
          · obtain ⟨x, hx9, rfl⟩ := List.mem_map.mp hw9
            exact va_Nw.use rfl (hVM.2.2.2.2.2.2 x hx9)
      have hgood : ∀ w ∈ Cond.classLink (mOwn mj) ik (exNm E) :: Cond.initialized (exNm E) :: atE E, vx_ot w = true := fun w hw9 => by
        rcases List.mem_cons.mp hw9 with rfl | hw9
        · rfl
        · rcases List.mem_cons.mp hw9 with rfl | hw9
          · rfl
          · exact List.all_eq_true.mp (List.all_eq_true.mp atE_ot E (List.mem_range.mpr hE5)) w hw9
      have hfit : Bundle.fit (exNm E) = true := List.all_eq_true.mp exN_fit E (List.mem_range.mpr hE5)
      have hstr : vk_R (mOwn mj) is tx (sa is) s := by rw [hown3]; exact hVM.2.1 (is, tx) hstrm
      have hat2 : ∀ w ∈ vx_atS (mOwn mj) ic (exNm E) exCh, w.before ((as.map (mv ad)).toArray) s = true := by rw [hown3, hic]; exact hat
      have hgood2 : ∀ w ∈ Cond.classLink (mOwn mj) ik (exNm E) :: Cond.initialized (exNm E) :: vx_atS (mOwn mj) ic (exNm E) exCh, vx_ot w = true := by rw [hown3, hic]; rw [hown3] at hgood; exact hgood
      refine vx_throwS (own := mOwn mj) (cls := exNm E) (names := exCh) (ik := ik) (is := is) (ic := ic) (sa := sa is) (A := AB B) hx hb hst hown hfit (fun n hn => List.all_eq_true.mp exCh_fit n hn) (hwd _ List.mem_cons_self) (hwd _ (List.mem_cons_of_mem _ List.mem_cons_self)) hstr hat2 hgood2 hHP.1 hHP.2.1 i7 (hsz.trans hml.symm) d0 d3 d4 d6 d9 (fun x hx9 => (hexe x hx9).elim) ?_ ?_ ?_ ?_ hlocks ?_ i7.2.2 (by omega) (by omega)
      · show 2 + 3 < D + 1; omega
      · rw [wt_mv]; show wt st + (13 * 3 + 43) ≤ 38 * (D + 1); omega
      · show cells + 1 ≤ mMc mj; omega
      · show slots + 6 ≤ mMs mj; omega
      · intro t hvm hle hsame
        have hPt : va_P (dC, dI) vwCl (toW ad' cy h') t.heap := i5.kept (fun k9 q9 hq9 => hsame q9.1 (vx_lt i5 hq9))
        refine ⟨E, h', ad', hEg, hQ, i1, i2, i3, hPt, i6, ?_⟩
        exact ⟨Nat.le_trans i7.1 hle, fun q h1 h2 => by rw [hsame q (Nat.lt_of_lt_of_le h1 i7.1)]; exact i7.2.1 q h1 h2⟩
    · intro pc k9 E ad' H locs cells slots h' rc rs ls' rest ce q9 hE hQ I hce hcv hcl
      obtain ⟨i1, i2, i3, i4, i5, i6, i7, i8, i9⟩ := I
      have i8' : cells + rc ≤ mMc mj := i8
      have i9' : slots + rs ≤ mMs mj := i9
      exact vx_out (fun x hx9 => (hexe x hx9).elim) hlocks hce hcv hcl (fun t ht _ => ⟨k9, h', ad', hE, hQ, i1, i2, i3, by rw [ht]; exact i5, i6, i7.F ht⟩) i7.2.2 (by omega) (by omega)
/-- EVERY CALL OF THE PURE MACHINE IS ONE OF THE MACHINE -/
theorem met_sound (hT : TblOK) (hX : TblX) (hst : l.stackTraces = false) : ∀ (D k : Nat) (mj : MI) (as : List Value) (h : PH) (Q : Out → PH → Prop) (ad : Nat → Nat), nth mtL k = some mj → k < 157 → wpC sc D k as h Q → vx_Met l (mNm mj) (wsM mj) (rmM D mj) (PcM dC dI cy sa B b sc ad as h) (QcM dC dI cy B (mAl mj) h.length ad (qth (mTh mj) Q)) (XcM dC dI cy B (mAl mj) h.length ad (qth (mTh mj) Q)) (mMc mj) (mMs mj) (AB B)
  | 0, _, _, _, _, _, _, _, _, hw => False.elim hw
  | D + 1, k, mj, as, h, Q, ad, hmj, hk, hw => by
    have hnmj := (hT.1 mj (nth_mem hmj)).2.2.2.1
    unfold nmOK at hnmj
    simp only [Bool.and_eq_true, decide_eq_true_eq] at hnmj
    obtain ⟨⟨⟨⟨⟨⟨⟨⟨⟨⟨j1, j2⟩, j3⟩, j4⟩, j5⟩, j6⟩, j7⟩, j8⟩, j9⟩, j10⟩, j11⟩ := hnmj
    have hpl : plainName (mNm mj).cls = true := by rw [j1]; exact j2
    cases hh : mHh mj with
    | nil =>
      refine vx_ofW (cc := mCd mj) (maxL := mLo mj) (ret := mRt mj) (ws' := GW) hpl (by unfold wsM codeW; rw [hh]) ?_
      intro p e s m args below meth c s₁ B0 hml hex hPc
      exact body_sound hT hX hst hmj (met_sound hT hX hst D) hw B0 hml (by rw [hh]; exact List.eq_nil_iff_forall_not_mem.mpr hex) hPc
    | cons r0 rr =>
      refine vx_ofWH (hh := mHh mj) (cc := mCd mj) (maxL := mLo mj) (ret := mRt mj) (ws' := GW) hpl (by unfold wsM codeW; rw [hh]) ?_
      intro p e s m args below meth c s₁ B0 hml hPc
      refine body_sound hT hX hst hmj (met_sound hT hX hst D) hw B0 hml ?_ hPc
      have h9 : (Cond.codeWith (mNm mj) (mCd mj) (mLo mj) (mRt mj) (mHh mj)).before args s = true := atoms_spec (ws := wsM mj) B0.pre _ (by unfold wsM codeW; rw [hh]; exact List.mem_cons_self)
      exact vx_table (x := mNm mj) B0 h9
end SOUND
