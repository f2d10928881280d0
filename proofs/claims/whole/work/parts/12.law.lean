/-! THE CLAIM OUT OF THE PURE LAW: the law's text follows kit/laws/SKELETON.whole, with the launch's flags carried along -/
def R_law : String := "ConvexDeskLaw"
def lw_P (b : Addr) (xs : List Int32) (args : Array Value) (s : State) : Prop := args = #[.ref b] ∧ s.IntsAt b xs ∧ xs.length ≤ 320 ∧ (Jvm.Cond.and given_1 narrow_1).before args s = true
def lw_Q (_ : Array Value) (s : State) (o : Outcome) (t : State) : Prop := o = .returned (some (.int 1)) ∧ Framed s o t [] 600128 7301098
def lw_Z (below : List Frame) (a : Array Value) (s : State) : State → Prop := fun t => ∃ o, t.status = .running ∧ Ended t below o ∧ lw_Q a s o t
theorem lw_ret {p : Program} {l : Launch} {e : Env} {s : State} {m : MethodId} {below : List Frame} {meth : Method} {c : Code} {b : Nat} (hx : p.tables.exec = Jvm.exec) (hb : c.code = code) (hr : meth.sig.returnType = ret) (hlocks : meth.locks = false) {pc : Nat} {H : Heap} {ls : Array Slot} (hdg : decode code pc = .ok (.ireturn, 1)) : W p l e room_1 s m #[Value.ref b] below meth c H [] 600128 7301098 (lw_Z below #[Value.ref b] s) (F0 m pc ls [.int 1]) := by
  intro T hT X
  obtain ⟨fs, hret, hrun, hended, hW, hframe⟩ := X.leave (v := some (.int 1)) (hlocks := hlocks) (fun h => by rw [hr] at h; cases h)
  have hmeth' : T.vm.method? m = some meth := X.method'
  refine ⟨T.setFrames fs, ?_, .returned (some (.int 1)), hrun, hended, rfl, ⟨_, rfl⟩, hW, hframe⟩
  jvm_step X.here [X.here.top, hx, hb, hdg, hmeth', hr, ret, narrow_b1]
  (try refine ⟨rfl, ?_⟩); (try refine ⟨rfl, ?_⟩)
  first | (intro acts; rw [hret _ acts rfl rfl rfl]) | rw [hret _ _ rfl rfl rfl]
  exact Steps.refl _
def lw_At (p : Program) (s : State) (m : MethodId) (meth : Method) (c : Code) (b L : Nat) (xs : Nat → Int32) : Prop :=
  p.tables.exec = Jvm.exec ∧ c.code = code ∧ meth.sig.returnType = ret ∧ c.maxLocals = 7 ∧ s.vm.findClass R_law = some m.cls ∧ (∀ w ∈ lw_tbl, w.before #[Value.ref b] s = true) ∧ va_X b L xs s s.heap ∧ b < s.heap.size ∧ meth.locks = false ∧ (Jvm.Cond.and given_1 narrow_1).before #[Value.ref b] s = true
/-- words of the start -/
def nrL : List Cond := strL.map (fun q => Cond.exactly (.string RX3 q.1) "java/lang/String") ++ ((exN.flatMap fun E => (exN.filter (fun F => !(E == F))).map fun F => Cond.not (.castable E F)) ++ [.isRef (.static Bundle.tN "UNASSIGNED_STACK" Bundle.steD), .isRef (.static Bundle.tN "SUPPRESSED_SENTINEL" Bundle.listD)])
theorem nr_ok : (nrL.all fun w => decide (w ∈ flatC (Jvm.Cond.and given_1 narrow_1))) = true := by decide +kernel
def tbL : List Cond := strL.map (fun q => Cond.stringRef RX3 q.1 q.2) ++ (exN.map (fun E => Cond.castable E E) ++ (dclL.map Cond.declares ++ [nestW, .arrayOver (.object RX2), .laysStatic Bundle.tN "UNASSIGNED_STACK" Bundle.steD, .laysStatic Bundle.tN "SUPPRESSED_SENTINEL" Bundle.listD, .initialized Bundle.tN, .arrayClass .int, .arrayClass .long, .arrayClass .boolean, .instantiable RX0 4, .instantiable RX1 2, .instantiable RX2 2, .instantiable RX3 7, .instantiable RX4 19]))
theorem tb_ok : (tbL.all fun w => decide (w ∈ lw_tbl)) = true := by decide +kernel
theorem tb_in (w : Cond) (h : w ∈ tbL) : w ∈ lw_tbl := by simpa using List.all_eq_true.mp tb_ok w h
theorem nr_in (w : Cond) (h : w ∈ nrL) : w ∈ flatC (Jvm.Cond.and given_1 narrow_1) := by simpa using List.all_eq_true.mp nr_ok w h
/-- WHAT IS LEFT: the law, run on the pure machine from an empty heap, answers 1 -/
def PureLaw : Prop := ∀ (L : Nat) (xs : Nat → Int32), L ≤ 320 → Runs 11 (wpC (L, xs) 11) (L, xs) m_L_law (fun o _ => o = .inl (some (.int 1))) 0 [(0, .ref SID)] [] [] 600128 7301098
theorem law_in : nth mtL 157 = some m_L_law := rfl
set_option maxHeartbeats 4000000 in
theorem whole_start (hT : TblOK) (hX : TblX) (hL : PureLaw) {p : Program} {e : Env} {s : State} {m : MethodId} {below : List Frame} {meth : Method} {c : Code} (l : Launch) (hst : l.stackTraces = false) {b L : Nat} {xs : Nat → Int32} (hN : L ≤ 320) (C0 : lw_At p s m meth c b L xs) : W p l e room_1 s m #[Value.ref b] below meth c s.heap [] 0 0 (lw_Z below #[Value.ref b] s) (entryFrame m ([Value.ref b] : List Value).toArray 7) := by
  obtain ⟨hx, hb, hr, hml, hown, hts, hXs, hbl, hlocks, hgv⟩ := id C0
  have hfl := flat_of_before _ hgv
  have ht : ∀ w ∈ tbL, w.before #[Value.ref b] s = true := fun w h => hts w (tb_in w h)
  have hn : ∀ w ∈ nrL, w.before #[Value.ref b] s = true := fun w h => hfl w (nr_in w h)
  have hmem : m_L_law ∈ mtL := nth_mem law_in
  have hlay : ∀ ci, ci < 5 → ∀ w ∈ u_ws (cTn ci).1 (cTn ci).2.1 (cTn ci).2.2, w ∈ lw_tbl := fun ci h w hw => (hT.2.2.1 ci h w hw).1
  obtain ⟨c0, iS0, hK0⟩ := u_known (C := RX0) (T := TX0) (N := 4) (n := 4) hts (hlay 0 (by decide)) (ht (.instantiable RX0 4) (by decide +kernel))
  obtain ⟨c1, iS1, hK1⟩ := u_known (C := RX1) (T := TX1) (N := 2) (n := 2) hts (hlay 1 (by decide)) (ht (.instantiable RX1 2) (by decide +kernel))
  obtain ⟨c2, iS2, hK2⟩ := u_known (C := RX2) (T := TX2) (N := 2) (n := 2) hts (hlay 2 (by decide)) (ht (.instantiable RX2 2) (by decide +kernel))
  obtain ⟨c3, iS3, hK3⟩ := u_known (C := RX3) (T := TX3) (N := 7) (n := 7) hts (hlay 3 (by decide)) (ht (.instantiable RX3 7) (by decide +kernel))
  obtain ⟨c4, iS4, hK4⟩ := u_known (C := RX4) (T := TX4) (N := 19) (n := 19) hts (hlay 4 (by decide)) (ht (.instantiable RX4 19) (by decide +kernel))
  obtain ⟨dC, dI, hKc⟩ : ∃ (dC : Nat → ClassId) (dI : Nat → Nat → Nat), ∀ (k : Nat) (q : vw_C), vwCl[k]? = some q → u_Kn s q.1 q.2.1 q.2.2 (dC k) (dI k) := by
    refine ⟨fun k => if k = 0 then c0 else if k = 1 then c1 else if k = 2 then c2 else if k = 3 then c3 else c4, fun k => if k = 0 then iS0 else if k = 1 then iS1 else if k = 2 then iS2 else if k = 3 then iS3 else iS4, ?_⟩
    intro k q hq
    match k, hq with
    | 0, hq => cases hq; exact hK0
    | 1, hq => cases hq; exact hK1
    | 2, hq => cases hq; exact hK2
    | 3, hq => cases hq; exact hK3
    | 4, hq => cases hq; exact hK4
    | k + 5, hq => simp [vwCl] at hq
  obtain ⟨y0, k0, p0, a1, a2, a3⟩ := Cond.arrayClass_spec (ht (.arrayClass .int) (by decide +kernel))
  obtain ⟨y1, k1, p1, b1, b2, b3⟩ := Cond.arrayClass_spec (ht (.arrayClass .long) (by decide +kernel))
  obtain ⟨y2, k2, p2, d1, d2, d3⟩ := Cond.arrayClass_spec (ht (.arrayClass .boolean) (by decide +kernel))
  obtain ⟨p3, y3, k3, e1, -, e2, e3, e4⟩ := Cond.arrayOver_spec (ht (.arrayOver (.object RX2)) (by decide +kernel))
  obtain ⟨cy, hcy⟩ : ∃ cy : Nat → ClassId, cy 0 = y0 ∧ cy 1 = y1 ∧ cy 2 = y2 ∧ cy 3 = y3 := ⟨fun k => if k = 0 then y0 else if k = 1 then y1 else if k = 2 then y2 else y3, rfl, rfl, rfl, rfl⟩
  obtain ⟨f0, f1, f2, f3⟩ := hcy
  have hK : va_K (dC, dI) vwCl (tyC cy) s := by
    refine ⟨hKc, fun k q hq => ?_⟩
    match k, hq with
    | 0, hq => cases hq; rw [f0]; exact ⟨fun N z => ⟨(fun k h => by cases h), k0, a2, p0, a3⟩, a1⟩
    | 1, hq => cases hq; rw [f1]; exact ⟨fun N z => ⟨(fun k h => by cases h), k1, b2, p1, b3⟩, b1⟩
    | 2, hq => cases hq; rw [f2]; exact ⟨fun N z => ⟨(fun k h => by cases h), k2, d2, p2, d3⟩, d1⟩
    | 3, hq => cases hq; rw [f3]; exact ⟨fun N z => ⟨(fun k h => by cases h), k3, e2, p3, e3⟩, k3, p3, e2, e3, e1, e4⟩
    | k + 4, hq => simp [tyC] at hq
  obtain ⟨sa, hsa⟩ : ∃ sa : Nat → Nat, ∀ q ∈ strL, (Term.string RX3 q.1).eval #[Value.ref b] s none [] s = some (.ref (sa q.1)) := by
    have h0 : ∀ i : Nat, ∃ a : Nat, (∃ q ∈ strL, q.1 = i) → (Term.string RX3 i).eval #[Value.ref b] s none [] s = some (.ref a) := by
      intro i
      by_cases hi : ∃ q ∈ strL, q.1 = i
      · obtain ⟨q, hq, rfl⟩ := hi
        obtain ⟨a, c9, cA, kA, q1, -⟩ := Cond.exactly_spec (hn (.exactly (.string RX3 q.1) "java/lang/String") (List.mem_append_left _ (List.mem_map.mpr ⟨q, hq, rfl⟩)))
        exact ⟨a, fun _ => q1⟩
      · exact ⟨0, fun h => absurd h hi⟩
    obtain ⟨f, hf⟩ := Classical.axiomOfChoice h0
    exact ⟨f, fun q hq => hf q.1 ⟨q, hq, rfl⟩⟩
  have hVM : VMf dC dI cy sa s := by
    refine ⟨hK, fun q hq => vk_R.of (ht (.stringRef RX3 q.1 q.2) (List.mem_append_left _ (List.mem_map.mpr ⟨q, hq, rfl⟩))) (hsa q hq), va_Nw.of rfl (ht nestW (by decide +kernel)), fun E hE F hF hne => va_Nc.of (hn _ ?_), va_AO.of (ht (.arrayOver (.object RX2)) (by decide +kernel)), fun E hE => va_Nw.of rfl (ht (.castable E E) ?_), fun x hx9 => va_Nw.of rfl (ht (.declares x) ?_)⟩
    · refine List.mem_append_right _ (List.mem_append_left _ (List.mem_flatMap.mpr ⟨E, hE, List.mem_map.mpr ⟨F, List.mem_filter.mpr ⟨hF, ?_⟩, rfl⟩⟩))
      simpa using hne
    · exact List.mem_append_right _ (List.mem_append_left _ (List.mem_map.mpr ⟨E, hE, rfl⟩))
    · exact List.mem_append_right _ (List.mem_append_right _ (List.mem_append_left _ (List.mem_map.mpr ⟨x, hx9, rfl⟩)))
  have hA : ∀ a : Nat, a < s.heap.size → ¬ AB s.heap.size a := fun a h => Nat.not_le.mpr h
  have hHP : HPf s.heap.size b (L, xs) s s.heap :=
    ⟨vx_Zqof (ht _ (by decide +kernel)) (ht (.initialized Bundle.tN) (by decide +kernel)) (hn _ (by decide +kernel)) hA, vx_Zqof (ht _ (by decide +kernel)) (ht (.initialized Bundle.tN) (by decide +kernel)) (hn _ (by decide +kernel)) hA, hXs, hbl, Nat.le_refl _⟩
  have C1 : Ctx p room_1 s m #[Value.ref b] meth c dC dI cy sa s.heap.size b (L, xs) 11 m_L_law lw_tbl :=
    ⟨hx, hb, hml, hown, hts, fun w h _ => h, hlocks, Nat.le_refl _, by decide, hVM, hHP, (fun _ h => by cases h), fun h => absurd rfl h⟩
  have hl := lv_entry ([.ref b] : List Value) (n := 7) (Nat.le_of_ble_eq_true rfl)
  rw [lg_entry_eq]
  generalize (lg_sl ([.ref b] : List Value) ++ List.replicate (7 - (lg_sl ([.ref b] : List Value)).length) Slot.unset).toArray = ls at hl ⊢
  have key := hL L xs hN (Sim p l e room_1 s m #[Value.ref b] below meth c dC dI cy s.heap.size b m_L_law 0 (fun _ => b) (lw_Z below #[Value.ref b] s))
    (fun pc2 lv2 st2 h2 rc2 rs2 hstp => sim_step hT hmem C1 (fun k mj as h Q ad h1 h2 h3 => met_sound hT hX hst 11 k mj as h Q ad h1 h2 h3) ?_ ?_ pc2 lv2 st2 h2 rc2 rs2 hstp)
  · exact key (fun _ => b) s.heap [] 0 0 ls ⟨fun _ => rfl, fun _ _ => rfl, Nat.le_refl _, rfl, fun k q h => by simp [toW] at h, ⟨fun i j p q h => by simp [toW] at h, fun k q h => by simp [toW] at h⟩, va_S.rf, by decide, by decide⟩ (List.pairwise_singleton _ _) hl
  · intro pc i v ad' H locs cells slots h' rc rs ls' hdec hok hQ I
    obtain ⟨i1, i2, i3, i4, i5, i6, i7, i8, i9⟩ := I
    have hv : v = some (.int 1) := Sum.inl.inj hQ
    subst hv
    have hok : rOK i (some .boolean) (some (.int 1)) := hok
    have hi : i = .ireturn := by
      cases i <;> first | rfl | exact False.elim hok
    subst hi
    have i8' : cells + rc ≤ 600128 := i8
    have i9' : slots + rs ≤ 7301098 := i9
    refine va_forget (fun q hq => i7.2.2 q hq) (W.widen (k := 600128) (n := 7301098) (by omega) (by omega) ?_)
    exact lw_ret hx hb hr hlocks hdec
  · intro h; cases h
set_option maxHeartbeats 4000000 in
theorem lw_walk (hT : TblOK) (hX : TblX) (hL : PureLaw) (l : Launch) (hst : l.stackTraces = false) (b : Addr) (xs : List Int32) : MetFree l x (headSpec (Jvm.Cond.code x code maxLocals ret :: tables_1) room_1) (lw_P b xs) (fun _ _ _ _ _ => True) lw_Q := by
  refine MetFree.of_bodyS (code := code) (maxLocals := maxLocals) (ret := ret) (by decide) ?_ ?_
  · intro args s m h hn
    obtain ⟨meth, c, h1, h2, h3, h4, h5, h6, -, -⟩ := Cond.code_spec hn (atoms_spec (ws := Jvm.Cond.code x code maxLocals ret :: tables_1) h _ List.mem_cons_self)
    exact ⟨meth, c, h1, h2, h3, h4, h5, h6⟩
  · intro p e s m args below meth c s₁ B hml0 hP _
    obtain ⟨rfl, hx, hbd, hgv⟩ := hP
    obtain ⟨scr, harrAt, hlist, hof, hsmall⟩ := hx
    obtain ⟨hcb, hkn, -, -⟩ := State.arrayAt?_spec harrAt
    have hown : s.vm.findClass R_law = some m.cls := findClass_of_methodNamed B.named
    have hts0 : ∀ c ∈ (Jvm.Cond.code x code maxLocals ret :: tables_1), c.before #[Value.ref b] s = true := atoms_spec (ws := Jvm.Cond.code x code maxLocals ret :: tables_1) B.pre
    have hts : ∀ w ∈ lw_tbl, w.before #[Value.ref b] s = true := k2_hts_sels lw_privs (fun w hw => hts0 w (List.mem_cons_of_mem _ hw)) lw_privs_ok
    have hml : c.maxLocals = 7 := B.maxLocals_eq (hts0 _ List.mem_cons_self)
    have X₀ : Stand p l e room_1 s m #[Value.ref b] below meth c s₁ [] 0 0 := Stand.of_body B
    have hh0 : s₁.heap = s.heap := by rw [B.state]; rfl
    have hsz : scr.slots.size = xs.length := by rw [← Array.length_toList, hlist, List.length_map]
    have hval : ∀ j : Nat, j < xs.length → scr.slots[j]? = some (.int (xs.getD j 0)) := fun j hj => by
      rw [← Array.getElem?_toList, hlist]
      simp [hj]
    have hbl : b < s.heap.size := (Array.getElem?_eq_some_iff.mp hcb).1
    have hX9 : va_X b xs.length (fun j => xs.getD j 0) s s.heap := ⟨scr, hcb, hof, hkn, hsz, hval⟩
    have K : W p l e room_1 s m #[Value.ref b] below meth c s₁.heap [] 0 0 (lw_Z below #[Value.ref b] s) (entryFrame m ([Value.ref b] : List Value).toArray 7) := by
      rw [hh0]
      exact whole_start hT hX hL l hst hbd ⟨B.exec, B.bytes, B.returns, hml, hown, hts, hX9, hbl, B.notSynchronized, hgv⟩
    obtain ⟨t, a1, o, b1, b2, b3⟩ := K s₁ rfl X₀
    exact ⟨t, o, a1, b1, b2, b3⟩
theorem lw_pre_spec {args : Array Value} {s : State} (h : (Jvm.Cond.and given_1 narrow_1).before args s = true) (hr : rest_1_c.before args s = true) : ∃ (b : Addr) (xs : List Int32), lw_P b xs args s := by
  have hs := flat_of_before _ h
  have hq := flat_of_before _ hr
  have hc : (Cond.count 1).before args s = true := hs _ (by decide +kernel)
  have harr : (Cond.arrayOf (.arg 0) .int).before args s = true := hs _ (by decide +kernel)
  have hle : (Cond.le (.length (.arg 0)) (.int 320)).before args s = true := hs _ (by decide +kernel)
  have hlen : (Cond.isInt (.length (.arg 0))).before args s = true := hq _ (by decide +kernel)
  have hall : (Cond.all (.arg 0) (.isInt (.elem (.arg 0) (.index 0)))).before args s = true := hq _ (by decide +kernel)
  obtain ⟨b, xs, hb, hx⟩ := State.ints_of_pre rfl harr hlen hall
  have hsm : xs.length < 2 ^ 31 := hx.choose_spec.2.2.2
  have hev : (Term.length (.arg 0)).eval args s none [] s = some (.int xs.length.toInt32) := hx.length_eval hb
  have hv := Cond.le_ints hev (show (Term.int 320).eval args s none [] s = some (.int 320) from rfl)
  have hd : xs.length.toInt32 ≤ 320 := by
    simpa [Cond.before, Cond.holds, hv] using hle
  have hN : xs.length ≤ 320 := (Int32.ofNat_le_ofNat hsm (by decide)).mp (show Int32.ofNat xs.length ≤ Int32.ofNat 320 from hd)
  exact ⟨b, xs, Cond.one_arg hc (show args[0]? = some (.ref b) from hb), hx, hN, h⟩
theorem lw_comes (hT : TblOK) (hX : TblX) (hL : PureLaw) (l : Launch) (hst : l.stackTraces = false) : Comes l x (Jvm.Cond.code x code maxLocals ret :: tables_1) room_1 (fun tb e args s => Calls_1 tb e args s ∧ rest_1 tb e args s ∧ Pre_1 tb e args s)
    (fun _ _ args s o t => lw_Q args s o t) := by
  intro p e ha hc hk s m args below hf hfit hheap happ hpre
  obtain ⟨b, xs, hP⟩ := lw_pre_spec hpre.2.2 hpre.2.1
  obtain ⟨k, o, h1, h2, h3, hQ⟩ := lw_walk hT hX hL l hst b xs p e ha hc hk s m args below hf ((Spec.applies_iff_loose hf).mp happ).1 hP trivial
  exact ⟨k, o, h1, h2, h3, hQ⟩
theorem lw_frame {s t : State} {o : Outcome} {args : Array Value} (h : Framed s o t [] 600128 7301098) :
    Framed s o t (fieldLocs frame_1_writes args s ++ arrayLocs frame_1_arrays args s ++ staticLocs frame_1_statics s) 600128 7301098 := h
theorem lw_limb (hT : TblOK) (hX : TblX) (hPL : PureLaw) (L : Cond) (hL : ∀ (args : Array Value) (s t : State), L.after args s (.returned (some (.int 1))) t = true) :
    ArmFor flags0 classFile x code maxLocals ret World_1 tables_1 room_1 Calls_1 rest_1 Pre_1
      (fun tb e a s o t => postC L tb e a s o t ∧ Framed s o t (fieldLocs frame_1_writes a s ++ arrayLocs frame_1_arrays a s ++ staticLocs frame_1_statics s) 600128 7301098) := by
  intro l hfl _ _ p e ha hc hk s m args below hf hfit hheap happ hpre
  have hst : l.stackTraces = false := by unfold Launch.stackTraces; rw [hfl]; decide
  obtain ⟨k, o, h1, h2, h3, rfl, hF⟩ := lw_comes hT hX hPL l hst p e ha hc hk s m args below hf hfit hheap happ hpre
  exact ⟨k, _, h1, h2, h3, hL args s _, lw_frame hF⟩
/-- THE CLAIM, if the tables are as they are read and the pure law answers 1 -/
theorem claim_of_pure (hT : TblOK) (hX : TblX) (hPL : PureLaw) : Claimed_1_1 ∧ Claimed_1_2 := ⟨lw_limb hT hX hPL limb_1_1 (fun args s t => by simp [limb_1_1, Cond.after, Cond.holds, Cond.value]), lw_limb hT hX hPL limb_1_2 (fun args s t => Cond.after_iff.mpr (by
  first | (rw [show limb_1_2 = Cond.eq .result (.int 1) from rfl, Cond.eq_ints (x := 1) (y := 1) rfl rfl]; simp; done) | (simp [limb_1_2, Cond.value, Term.eval]; done)))⟩
