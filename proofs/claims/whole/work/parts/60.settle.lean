/-! THE REFERENCE's SETTLING -/
def eqF (G : List V3) : List V3 → (Nat → List V3) → Nat → List V3
  | [], M => M
  | k :: t, M => eqF G t (if flatB G k = true then mkM M 0 (rctV (prm k)) else M)
def iqF (G : List V3) (dm : Nat) : List V3 → (Nat → List V3) → Nat → List V3
  | [], M => M
  | k :: t, M => iqF G dm t (if flatB G k = false ∧ cutB G k dm = true then aiF M k else M)
def st2 (C G : List V3) (M : Nat → List V3) (dm : Nat) : Nat → List V3 := iqF G dm C (eqF G C M)
def st3 (C G : List V3) (M : Nat → List V3) (dm : Nat) : Nat → List V3 := mlF (st2 C G M dm) dm
def stE (C G : List V3) (M3 : Nat → List V3) (dm : Nat) : Nat → List V3 := if (M3 2).length = 2 then mkM M3 4 (prm (1, 0, 0)) else if (M3 2).length = 1 then acrF M3 (gt (M3 2) 0) G else enF C G dm G M3
def stF (C G : List V3) (M : Nat → List V3) : Nat → List V3 := if flaD C G = 0 then mptF M (fpt G) else stE C G (st3 C G M (flaD C G)) (flaD C G)
/-- numbers small enough for settling -/
def okA (G : List V3) (M : Nat → List V3) (u : V3) : Prop := (∀ g ∈ G, inV (lin (cmp3 u (pvt u)) (-(cmp3 (prm g) (pvt u))) (prm g) u)) ∧ (∀ c ∈ G.map (fun g => cleV u (prm g)), ∀ c' ∈ G.map (fun g => cleV u (prm g)), inL (cmp3 c (3 - pvt u) * c'.1)) ∧ (acR M u G).1 ≠ none ∧ (acR M u G).2.1 ≠ none
def okSt (C G : List V3) (M : Nat → List V3) : Prop :=
  (∀ k ∈ C, ∀ g ∈ G, inL (dot k g)) ∧ (∀ k ∈ C, ∀ k' ∈ C, flatB G k = true → flatB G k' = true → inV (xp k k')) ∧ (∀ g ∈ G, ∀ g' ∈ G, inV (xp g g')) ∧ (∀ k ∈ C, inV k) ∧ (∀ g ∈ G, inV g) ∧
  (flaD C G = 2 → ∀ k ∈ C ++ [((1, 0, 0) : V3)], ∀ k' ∈ C ++ [((1, 0, 0) : V3)], inV (xp k k')) ∧ (∃ g ∈ G, g.1 ≠ 0) ∧
  (flaD C G = 1 → eqF G C M 0 ≠ []) ∧
  (flaD C G ≠ 0 → eqF G C M 0 ≠ [] → ∀ k ∈ C, inV (lin (cmp3 (gt (eqF G C M 0) 0) (pvt (gt (eqF G C M 0) 0))) (-(cmp3 (prm k) (pvt (gt (eqF G C M 0) 0)))) (prm k) (gt (eqF G C M 0) 0))) ∧
  (flaD C G ≠ 0 → ∀ q ∈ st2 C G M (flaD C G) 1, inL (dot q (perpV (mlV (st2 C G M (flaD C G)) (flaD C G))))) ∧
  (flaD C G ≠ 0 → (st3 C G M (flaD C G) 2).length = 1 → okA G (st3 C G M (flaD C G)) (gt (st3 C G M (flaD C G) 2) 0))
theorem fl2_le (C G : List V3) : ∀ (n i : Nat) (f : Option Nat) (dm : Nat), dm ≤ 2 → fl2 C G n i f dm ≤ 2
  | 0, _, _, _, h => h
  | n + 1, i, f, dm, h => by
    unfold fl2
    split
    · cases f with
      | none => exact fl2_le C G n _ _ _ (by omega)
      | some j =>
        show fl2 C G n (i + 1) (some j) _ ≤ 2
        refine fl2_le C G n _ _ _ ?_
        split <;> omega
    · exact fl2_le C G n _ _ _ h
theorem flaD_le (C G : List V3) : flaD C G ≤ 2 := fl2_le C G _ _ _ _ (Nat.le_refl _)
theorem aiF_ne (M : Nat → List V3) (k : V3) {j : Nat} (h : j ≠ 1) : aiF M k j = M j := by
  unfold aiF
  split
  · rfl
  · exact mkM_ne _ _ h
theorem aiF_len (M : Nat → List V3) (k : V3) : (aiF M k 1).length ≤ (M 1).length + 1 := by
  unfold aiF
  split
  · omega
  · exact mkM_len _ _ _ _
theorem iqF_ne (G : List V3) (dm : Nat) {j : Nat} (h : j ≠ 1) : ∀ (t : List V3) (M : Nat → List V3), iqF G dm t M j = M j
  | [], _ => rfl
  | k :: t, M => by
    show iqF G dm t _ j = M j
    rw [iqF_ne G dm h t]
    split
    · exact aiF_ne _ _ h
    · rfl
theorem eqF_ne (G : List V3) {j : Nat} (h : j ≠ 0) : ∀ (t : List V3) (M : Nat → List V3), eqF G t M j = M j
  | [], _ => rfl
  | k :: t, M => by
    show eqF G t _ j = M j
    rw [eqF_ne G h t]
    split
    · exact mkM_ne _ _ h
    · rfl
theorem mlF_ne (M : Nat → List V3) (dm : Nat) {j : Nat} (h : j ≠ 2) : mlF M dm j = M j := by
  unfold mlF
  generalize gt (M (if dm = 1 then 0 else 1)) 0 = v
  split
  · rw [mkM_ne _ _ h, mkM_ne _ _ h]
  · split
    · rfl
    · split
      · rw [mkM_ne _ _ h]
      · rfl
theorem inL_e0 {g : V3} (h : inV g) : inL (dot (1, 0, 0) g) := by
  unfold dot
  simp
  exact h.1
section ESETTLE
variable {sc : Scr} {d : Nat} {m : MM} {D Z h : PH} {Q : Out → PH → Prop} {C G : List V3} {M : Nat → List V3}
theorem sq_loop {call : Callee} (hc : call = wpC sc (d + 5)) {m0 : MM} {dm : Int32} (h0 : KG m0 C G) (h9 : ∀ x, x < C.length → m0 9 x = b2i (flatB G (gt C x))) (hki : ∀ k ∈ C, inV k) {R : Nat → List V3}
    (hQ : ∀ m' h', MR m' D Z h' → Mk m' R → Mok R → Fx [7, 10, 11] m0 m' → Runs (d + 5) call sc m_X4_settle Q 60 [(0, .ref 60), (1, .int dm)] [] h' 0 0) :
    ∀ (n i : Nat) (m : MM) (h : PH) (M : Nat → List V3), i + n = C.length → MR m D Z h → Mk m M → Mok M → (M 0).length + n ≤ 600 → Fx [7, 10, 11] m0 m → eqF G (C.drop i) M = R → Runs (d + 5) call sc m_X4_settle Q 16 [(0, .ref 60), (1, .int dm), (2, .int (nI i))] [] h 0 0 := by
  have hcl := h0.2.2.1
  intro n
  induction n with
  | zero =>
    intro i m h M hi hm hM hMo l0 hf hR
    rw [List.drop_eq_nil_of_le (by omega)] at hR
    have hR : M = R := hR
    subst hR
    have F6 := (h0.fx hf (by decide) (by decide) (by decide) (by decide)).F6
    refine go hc 4 (fun K hK => ?_)
    conv => whnf
    refine ⟨_, _, hm.M, rfl, ?_⟩
    rw [F6]
    conv => whnf
    refine ⟨fun c_ => ?_, fun c_ => absurd (nI_le (by omega) (by omega)) c_⟩
    conv => whnf
    try simp only [nI_1]
    refine hK _ _ _ _ _ _ (Runs.less hc [0, 1] rfl rfl rfl rfl (hQ m h hm hM hMo hf))
  | succ n ih =>
    intro i m h M hi hm hM hMo l0 hf hR
    have hil : i < C.length := by omega
    have hkg := h0.fx hf (by decide) (by decide) (by decide) (by decide)
    have F6 := hkg.F6
    have hkm := gt_mem hil
    have e9 : mI m 9 i = bI01 (flatB G (gt C i)) := by
      unfold mI
      rw [hf 9 (by decide), h9 i hil]
      cases flatB G (gt C i) <;> rfl
    rw [drop_gt hil] at hR
    unfold eqF at hR
    have n54 : ∀ (m' : MM) (h' : PH) (M' : Nat → List V3), MR m' D Z h' → Mk m' M' → Mok M' → (M' 0).length + n ≤ 600 → Fx [7, 10, 11] m0 m' → eqF G (C.drop (i + 1)) M' = R → Runs (d + 5) call sc m_X4_settle Q 54 [(0, .ref 60), (1, .int dm), (2, .int (nI i))] [] h' 0 0 := by
      intro m' h' M' hm' hM' hMo' l0' hf' hR'
      refine go hc 2 (fun K hK => ?_)
      conv => whnf
      try simp only [nI_1]
      refine hK _ _ _ _ _ _ (Runs.less hc [0, 1, 2] rfl rfl rfl rfl (ih (i + 1) m' h' M' (by omega) hm' hM' hMo' l0' hf' hR'))
    refine go hc 4 (fun K hK => ?_)
    conv => whnf
    refine ⟨_, _, hm.M, rfl, ?_⟩
    rw [F6]
    conv => whnf
    refine ⟨fun c_ => absurd c_ (nI_ge hil (by omega)), fun c_ => ?_⟩
    conv => whnf
    refine hK _ _ _ _ _ _ (go hc 5 (fun K hK => ?_))
    conv => whnf
    refine ⟨_, _, hm.M, rfl, ?_⟩
    conv => whnf
    refine ⟨_, _, hm.B9, ixv (k := i) ((rfl : nI (i) = nI (i))) (by omega) (Nat.le_of_ble_eq_true rfl), ?_⟩
    rw [ixc (k := i) ((rfl : nI (i) = nI (i))) (by omega)]
    conv => whnf
    rw [e9]
    cases hb : flatB G (gt C i) with
    | false =>
      rw [hb] at hR
      have hR : eqF G (C.drop (i + 1)) M = R := hR
      refine ⟨fun c_ => ?_, fun c_ => absurd (rfl) c_⟩
      conv => whnf
      refine hK _ _ _ _ _ _ (go hc 1 (fun K hK => ?_))
      conv => whnf
      try simp only [nI_1]
      refine hK _ _ _ _ _ _ (Runs.less hc [0, 1, 2] rfl rfl rfl rfl (n54 m h M hm hM hMo (by omega) hf hR))
    | true =>
      rw [hb] at hR
      have hR : eqF G (C.drop (i + 1)) (mkM M 0 (rctV (prm (gt C i)))) = R := hR
      have hpi := prm_inV (hki _ hkm)
      have ll := mkM_len M 0 0 (rctV (prm (gt C i)))
      refine ⟨fun c_ => absurd c_ (by decide), fun c_ => ?_⟩
      conv => whnf
      refine hK _ _ _ _ _ _ ?_
      refine go hc 10 (fun K hK => ?_)
      conv => whnf
      refine ⟨_, _, hm.M, rfl, ?_⟩
      conv => whnf
      refine ⟨_, hm.M, Nat.le_of_ble_eq_true rfl, ?_⟩
      conv => whnf
      refine callee hc (e_load hm (a := 5) (by decide) rfl (show 3 * i + 2 < 1800 by omega) (hkg.k hil) (hki _ hkm) ?_)
      intro m1 h1 hm v1 f1
      conv => whnf
      refine ⟨_, hm.M, Nat.le_of_ble_eq_true rfl, ?_⟩
      conv => whnf
      refine callee hc (e_rectify hm v1 hpi ?_)
      intro m2 h2 hm v2 f2
      conv => whnf
      refine ⟨_, hm.M, Nat.le_of_ble_eq_true rfl, ?_⟩
      conv => whnf
      refine callee hc (e_make hm (k := 0) rfl (by omega) ((hM.fx f1 (by decide) (by decide)).fx f2 (by decide) (by decide)) (by omega) (hMo 0 (by omega)) (by rw [v2]; exact inV_rct hpi) ?_)
      intro m3 h3 hm M3 v3 f3
      rw [v2] at M3
      conv => whnf
      try simp only [nI_1]
      refine hK _ _ _ _ _ _ (Runs.less hc [0, 1, 2] rfl rfl rfl rfl (n54 m3 h3 (mkM M 0 (rctV (prm (gt C i)))) hm M3 (hMo.mk (inV_rct hpi)) (by omega) (((hf.trans (f1.mono (by decide))).trans (f2.mono (by decide))).trans f3) hR))
theorem si_loop {call : Callee} (hc : call = wpC sc (d + 5)) {m0 : MM} {dm : Nat} {Y : Int32} (hY : Y = nI dm) (hdm : dm < 3) (h0 : KG m0 C G) (h9 : ∀ x, x < C.length → m0 9 x = b2i (flatB G (gt C x))) (hki : ∀ k ∈ C, inV k) (hd : ∀ k ∈ C, ∀ g ∈ G, inL (dot k g)) (hgx : ∀ g ∈ G, ∀ g' ∈ G, inV (xp g g')) (hgi : ∀ g ∈ G, inV g) {e : List V3} (hcl : e ≠ [] → ∀ k ∈ C, inV (lin (cmp3 (gt e 0) (pvt (gt e 0))) (-(cmp3 (prm k) (pvt (gt e 0)))) (prm k) (gt e 0))) {R : Nat → List V3}
    (hQ : ∀ m' h', MR m' D Z h' → Mk m' R → Mok R → Fx [7, 10, 11] m0 m' → Runs (d + 5) call sc m_X4_settle Q 99 [(0, .ref 60), (1, .int Y)] [] h' 0 0) :
    ∀ (n i : Nat) (m : MM) (h : PH) (M : Nat → List V3), i + n = C.length → MR m D Z h → Mk m M → Mok M → M 0 = e → (M 1).length + n ≤ 600 → Fx [7, 10, 11] m0 m → iqF G dm (C.drop i) M = R → Runs (d + 5) call sc m_X4_settle Q 62 [(0, .ref 60), (1, .int Y), (2, .int (nI i))] [] h 0 0 := by
  have hcl' := h0.2.2.1
  intro n
  induction n with
  | zero =>
    intro i m h M hi hm hM hMo he l1 hf hR
    rw [List.drop_eq_nil_of_le (by omega)] at hR
    have hR : M = R := hR
    subst hR
    have F6 := (h0.fx hf (by decide) (by decide) (by decide) (by decide)).F6
    refine go hc 4 (fun K hK => ?_)
    conv => whnf
    refine ⟨_, _, hm.M, rfl, ?_⟩
    rw [F6]
    conv => whnf
    refine ⟨fun c_ => ?_, fun c_ => absurd (nI_le (by omega) (by omega)) c_⟩
    conv => whnf
    try simp only [nI_1]
    refine hK _ _ _ _ _ _ (Runs.less hc [0, 1] rfl rfl rfl rfl (hQ m h hm hM hMo hf))
  | succ n ih =>
    intro i m h M hi hm hM hMo he l1 hf hR
    have hil : i < C.length := by omega
    have hkg := h0.fx hf (by decide) (by decide) (by decide) (by decide)
    have F6 := hkg.F6
    have hkm := gt_mem hil
    have e9 : mI m 9 i = bI01 (flatB G (gt C i)) := by
      unfold mI
      rw [hf 9 (by decide), h9 i hil]
      cases flatB G (gt C i) <;> rfl
    rw [drop_gt hil] at hR
    unfold iqF at hR
    have n93 : ∀ (m' : MM) (h' : PH) (M' : Nat → List V3), MR m' D Z h' → Mk m' M' → Mok M' → M' 0 = e → (M' 1).length + n ≤ 600 → Fx [7, 10, 11] m0 m' → iqF G dm (C.drop (i + 1)) M' = R → Runs (d + 5) call sc m_X4_settle Q 93 [(0, .ref 60), (1, .int Y), (2, .int (nI i))] [] h' 0 0 := by
      intro m' h' M' hm' hM' hMo' he' l1' hf' hR'
      refine go hc 2 (fun K hK => ?_)
      conv => whnf
      try simp only [nI_1]
      refine hK _ _ _ _ _ _ (Runs.less hc [0, 1, 2] rfl rfl rfl rfl (ih (i + 1) m' h' M' (by omega) hm' hM' hMo' he' l1' hf' hR'))
    refine go hc 4 (fun K hK => ?_)
    conv => whnf
    refine ⟨_, _, hm.M, rfl, ?_⟩
    rw [F6]
    conv => whnf
    refine ⟨fun c_ => absurd c_ (nI_ge hil (by omega)), fun c_ => ?_⟩
    conv => whnf
    refine hK _ _ _ _ _ _ (go hc 5 (fun K hK => ?_))
    conv => whnf
    refine ⟨_, _, hm.M, rfl, ?_⟩
    conv => whnf
    refine ⟨_, _, hm.B9, ixv (k := i) ((rfl : nI (i) = nI (i))) (by omega) (Nat.le_of_ble_eq_true rfl), ?_⟩
    rw [ixc (k := i) ((rfl : nI (i) = nI (i))) (by omega)]
    conv => whnf
    rw [e9]
    cases hb : flatB G (gt C i) with
    | true =>
      rw [hb, if_neg (fun q => by cases q.1)] at hR
      refine ⟨fun c_ => absurd c_ (by decide), fun c_ => ?_⟩
      conv => whnf
      try simp only [nI_1]
      refine hK _ _ _ _ _ _ (Runs.less hc [0, 1, 2] rfl rfl rfl rfl (n93 m h M hm hM hMo he (by omega) hf hR))
    | false =>
      rw [hb] at hR
      refine ⟨fun c_ => ?_, fun c_ => absurd (rfl) c_⟩
      conv => whnf
      refine hK _ _ _ _ _ _ (go hc 5 (fun K hK => ?_))
      conv => whnf
      refine ⟨_, hm.M, Nat.le_of_ble_eq_true rfl, ?_⟩
      conv => whnf
      refine callee hc (e_cutsOut hm hkg rfl hY hdm hil (hd _ hkm) hgx (fun g hg => (hgi g hg).1) ?_)
      intro m1 h1 hm f1
      conv => whnf
      have hf1 := hf.trans (f1.mono (k := [7, 10, 11]) (by decide))
      have hM1 := hM.fx f1 (by decide) (by decide)
      cases hcb : cutB G (gt C i) dm with
      | false =>
        rw [hcb, if_neg (fun q => by cases q.2)] at hR
        refine ⟨fun c_ => ?_, fun c_ => absurd (rfl) c_⟩
        conv => whnf
        try simp only [nI_1]
        refine hK _ _ _ _ _ _ (Runs.less hc [0, 1, 2] rfl rfl rfl rfl (n93 m1 h1 M hm hM1 hMo he (by omega) hf1 hR))
      | true =>
        rw [hcb, if_pos ⟨rfl, rfl⟩] at hR
        have ll := aiF_len M (gt C i)
        refine ⟨fun c_ => absurd c_ (by decide), fun c_ => ?_⟩
        conv => whnf
        refine hK _ _ _ _ _ _ (go hc 3 (fun K hK => ?_))
        conv => whnf
        refine ⟨_, hm.M, Nat.le_of_ble_eq_true rfl, ?_⟩
        conv => whnf
        refine callee hc (e_addIneq hm (h0.fx hf1 (by decide) (by decide) (by decide) (by decide)) hM1 hMo rfl hil (hki _ hkm) (fun q => by rw [he]; exact hcl (by rw [← he]; exact q) _ hkm) (by omega) ?_)
        intro m2 h2 hm M2 f2
        conv => whnf
        have hmo2 : Mok (aiF M (gt C i)) := by
          unfold aiF
          split
          · exact hMo
          · refine hMo.mk ?_
            unfold aiV
            split
            · exact prm_inV (hki _ hkm)
            · rename_i hne
              rw [he] at hne ⊢
              exact prm_inV (hcl hne _ hkm)
        try simp only [nI_1]
        refine hK _ _ _ _ _ _ (Runs.less hc [0, 1, 2] rfl rfl rfl rfl (n93 m2 h2 (aiF M (gt C i)) hm M2 hmo2 (by rw [aiF_ne _ _ (by decide)]; exact he) (by omega) (hf1.trans f2) hR))
theorem mlF_ok {M : Nat → List V3} {dm : Nat} (h : Mok M) (hdm : dm = 1 ∨ dm = 2) (h01 : dm = 1 → M 0 ≠ []) : Mok (mlF M dm) := by
  unfold mlF
  by_cases n1 : dm = 2 ∧ M 1 = []
  · rw [if_pos n1]; exact (h.mk (prm_inV ⟨inL_0, inL_1, inL_0⟩)).mk (prm_inV ⟨inL_0, inL_0, inL_1⟩)
  · rw [if_neg n1]
    by_cases n2 : dm = 1 ∧ M 1 ≠ []
    · rw [if_pos n2]; exact h
    · rw [if_neg n2]
      have hv : inV (gt (M (if dm = 1 then 0 else 1)) 0) := by
        rcases hdm with e | e
        · rw [if_pos e]; exact h 0 (by omega) _ (gt_mem (List.length_pos_iff.mpr (h01 e)))
        · rw [if_neg (by omega)]
          exact h 1 (by omega) _ (gt_mem (List.length_pos_iff.mpr fun q => n1 ⟨e, q⟩))
      generalize gt (M (if dm = 1 then 0 else 1)) 0 = v at *
      split
      · exact h.mk (inV_rct (prm_inV ⟨inL_0, hv.2.2.neg, hv.2.1⟩))
      · exact h
theorem mlF_len {M : Nat → List V3} {dm : Nat} (h2 : M 2 = []) : (mlF M dm 2).length ≤ 2 := by
  unfold mlF
  have h0 : (M 2).length = 0 := by rw [h2]; rfl
  by_cases n1 : dm = 2 ∧ M 1 = []
  · rw [if_pos n1]
    have a := mkM_len M 2 2 (prm (0, 1, 0))
    have b := mkM_len (mkM M 2 (prm (0, 1, 0))) 2 2 (prm (0, 0, 1))
    omega
  · rw [if_neg n1]
    by_cases n2 : dm = 1 ∧ M 1 ≠ []
    · rw [if_pos n2]; omega
    · rw [if_neg n2]
      generalize gt (M (if dm = 1 then 0 else 1)) 0 = v
      split
      · have a := mkM_len M 2 2 (rctV (prm (perpV v)))
        omega
      · omega
theorem e_settle (hm : MR m D Z h) (h0 : KG m C G) (hok : okSt C G (fun _ => [])) (hM : Mk m (fun _ => []))
    (hQ : ∀ m' h', MR m' D Z h' → Mk m' (stF C G (fun _ => [])) → Fx [4, 5, 7, 9, 10, 11] m m' → Q (.inl none) h') : wpC sc (d + 6) 109 [.ref 60] h Q := by
  obtain ⟨hd, hx, hgx, hki, hgi, hce, hpt, h01, hcl, hml, hac⟩ := hok
  have hMo : Mok (fun _ => []) := fun k _ f hf => absurd hf List.not_mem_nil
  have hle := flaD_le C G
  have hCl := h0.2.2.1
  have hGl := h0.2.2.2.2.2
  unfold stF at hQ
  refine enter rfl rfl (fun call hc => go hc 5 (fun K hK => ?_))
  conv => whnf
  refine ⟨_, hm.M, Nat.le_of_ble_eq_true rfl, ?_⟩
  conv => whnf
  refine callee hc (e_flatten hm h0 hd hx ?_)
  intro m1 h1 hm b1 f1
  conv => whnf
  have k1 := h0.fx f1 (by decide) (by decide) (by decide) (by decide)
  have hM1 := hM.fx f1 (by decide) (by decide)
  by_cases z : flaD C G = 0
  · rw [if_pos z] at hQ
    rw [z]
    refine ⟨fun c_ => ?_, fun c_ => absurd (rfl) c_⟩
    conv => whnf
    refine hK _ _ _ _ _ _ (go hc 3 (fun K hK => ?_))
    conv => whnf
    refine ⟨_, hm.M, Nat.le_of_ble_eq_true rfl, ?_⟩
    conv => whnf
    refine callee hc (e_makePoint hm k1.2.2.2.1 hGl hgi hpt hM1 hMo (by simp) (by simp) ?_)
    intro m2 h2 hm M2 f2
    conv => whnf
    exact hQ m2 h2 hm M2 ((f1.mono (by decide)).trans (f2.mono (by decide)))
  · rw [if_neg z] at hQ
    have hcl := hcl z
    have hml := hml z
    have hac := hac z
    have hdm : flaD C G = 1 ∨ flaD C G = 2 := by omega
    refine ⟨fun c_ => absurd c_ (nI_ne0 (by omega) (by omega)), fun c_ => ?_⟩
    conv => whnf
    refine hK _ _ _ _ _ _ (go hc 2 (fun K hK => ?_))
    conv => whnf
    try simp only [nI_1]
    refine hK _ _ _ _ _ _ (Runs.less hc [0, 1, 2] rfl rfl rfl rfl (sq_loop (Q := qth _ Q) hc k1 b1 hki (R := eqF G C (fun _ => [])) ?_ C.length 0 m1 h1 _ (by omega) hm hM1 hMo (by simp; omega) Fx.refl rfl))
    intro m2 h2 hm2 M2 Mo2 f2
    have k2 := k1.fx f2 (by decide) (by decide) (by decide) (by decide)
    have b2 : ∀ x, x < C.length → m2 9 x = b2i (flatB G (gt C x)) := fun x hx => by rw [f2 9 (by decide)]; exact b1 x hx
    refine go hc 2 (fun K hK => ?_)
    conv => whnf
    try simp only [nI_1]
    refine hK _ _ _ _ _ _ (Runs.less hc [0, 1, 2] rfl rfl rfl rfl (si_loop (Q := qth _ Q) hc rfl (by omega) k2 b2 hki hd hgx hgi hcl (R := st2 C G (fun _ => []) (flaD C G)) ?_ C.length 0 m2 h2 _ (by omega) hm2 M2 Mo2 rfl (by rw [eqF_ne G (by decide)]; simp; omega) Fx.refl rfl))
    intro m3 h3 hm3 M3 Mo3 f3
    have k3 := k2.fx f3 (by decide) (by decide) (by decide) (by decide)
    have b3 : ∀ x, x < C.length → m3 9 x = b2i (flatB G (gt C x)) := fun x hx => by rw [f3 9 (by decide)]; exact b2 x hx
    have s20 : st2 C G (fun _ => []) (flaD C G) 0 = eqF G C (fun _ => []) 0 := iqF_ne G _ (by decide) _ _
    have s22 : ∀ j, j ≠ 0 → j ≠ 1 → st2 C G (fun _ => []) (flaD C G) j = [] := fun j a b => by
      unfold st2
      rw [iqF_ne G _ b, eqF_ne G a]
    have e01 : flaD C G = 1 → st2 C G (fun _ => []) (flaD C G) 0 ≠ [] := fun q => by rw [s20]; exact h01 q
    have l32 : (st3 C G (fun _ => []) (flaD C G) 2).length ≤ 2 := mlF_len (s22 2 (by decide) (by decide))
    have Mo4 : Mok (st3 C G (fun _ => []) (flaD C G)) := mlF_ok Mo3 hdm e01
    have e33 : st3 C G (fun _ => []) (flaD C G) 3 = [] := by unfold st3; rw [mlF_ne _ _ (by decide)]; exact s22 3 (by decide) (by decide)
    have e34 : st3 C G (fun _ => []) (flaD C G) 4 = [] := by unfold st3; rw [mlF_ne _ _ (by decide)]; exact s22 4 (by decide) (by decide)
    have hm := hm3
    refine go hc 9 (fun K hK => ?_)
    conv => whnf
    refine ⟨_, hm.M, Nat.le_of_ble_eq_true rfl, ?_⟩
    conv => whnf
    refine callee hc (e_makeLines hm M3 Mo3 rfl hdm e01 (s22 2 (by decide) (by decide)) hml ?_)
    intro m4 h4 hm M4 f4
    conv => whnf
    refine ⟨_, _, hm.M, rfl, ?_⟩
    conv => whnf
    refine Or.inr ⟨_, _, hm.I10, ixv (k := 2) ((rfl : (2 : Int32) = nI 2)) (by omega) (Nat.le_of_ble_eq_true rfl), ?_⟩
    rw [ixc (k := 2) ((rfl : (2 : Int32) = nI 2)) (by omega)]
    conv => whnf
    have M4 : Mk m4 (st3 C G (fun _ => []) (flaD C G)) := M4
    have k4 := k3.fx f4 (by decide) (by decide) (by decide) (by decide)
    have b4 : ∀ x, x < C.length → m4 9 x = b2i (flatB G (gt C x)) := fun x hx => by rw [f4 9 (by decide)]; exact b3 x hx
    have f4' : Fx [4, 5, 7, 9, 10, 11] m m4 := (((f1.mono (by decide)).trans (f2.mono (by decide))).trans (f3.mono (by decide))).trans (f4.mono (by decide))
    unfold stE at hQ
    generalize st3 C G (fun _ => []) (flaD C G) = M3' at *
    rw [M4.cnt (by omega)]
    have n151 : ∀ m' h', MR m' D Z h' → Mk m' (if (M3' 2).length = 2 then mkM M3' 4 (prm (1, 0, 0)) else if (M3' 2).length = 1 then acrF M3' (gt (M3' 2) 0) G else enF C G (flaD C G) G M3') → Fx [4, 5, 7, 9, 10, 11] m m' → Runs (d + 5) call sc m_X4_settle (qth (mTh m_X4_settle) Q) 151 [(0, .ref 60), (1, .int (nI (flaD C G)))] [] h' 0 0 := by
      intro m' h' hm' hM' hf'
      refine go hc 1 (fun K hK => ?_)
      conv => whnf
      exact hQ m' h' hm' hM' hf'
    by_cases c2 : (M3' 2).length = 2
    · rw [if_pos c2] at n151
      have iu : inV ((1, 0, 0) : V3) := ⟨inL_1, inL_0, inL_0⟩
      rw [c2]
      refine ⟨fun c_ => ?_, fun c_ => absurd (rfl) c_⟩
      conv => whnf
      refine hK _ _ _ _ _ _ (go hc 9 (fun K hK => ?_))
      conv => whnf
      refine ⟨_, hm.M, Nat.le_of_ble_eq_true rfl, ?_⟩
      conv => whnf
      refine callee hc (e_put hm (1, 0, 0) rfl rfl rfl iu ?_)
      intro m5 h5 hm v5 f5
      conv => whnf
      refine ⟨_, hm.M, Nat.le_of_ble_eq_true rfl, ?_⟩
      conv => whnf
      refine callee hc (e_make hm (k := 4) rfl (by omega) (M4.fx f5 (by decide) (by decide)) (by rw [e34]; decide) (Mo4 4 (by omega)) (by rw [v5]; exact prm_inV iu) ?_)
      intro m6 h6 hm M6 v6 f6
      rw [v5] at M6
      conv => whnf
      try simp only [nI_1]
      refine hK _ _ _ _ _ _ (Runs.less hc [0, 1] rfl rfl rfl rfl (n151 m6 h6 hm M6 ((f4'.trans (f5.mono (by decide))).trans (f6.mono (by decide)))))
    · rw [if_neg c2] at n151
      refine ⟨fun c_ => absurd c_ (fun q => c2 ((nI_eq (by omega) (by decide)).mp q)), fun c_ => ?_⟩
      conv => whnf
      refine hK _ _ _ _ _ _ ?_
      refine go hc 6 (fun K hK => ?_)
      conv => whnf
      refine ⟨_, _, hm.M, rfl, ?_⟩
      conv => whnf
      refine Or.inr ⟨_, _, hm.I10, ixv (k := 2) ((rfl : (2 : Int32) = nI 2)) (by omega) (Nat.le_of_ble_eq_true rfl), ?_⟩
      rw [ixc (k := 2) ((rfl : (2 : Int32) = nI 2)) (by omega)]
      conv => whnf
      rw [M4.cnt (by omega)]
      by_cases c1 : (M3' 2).length = 1
      · rw [if_pos c1] at n151
        obtain ⟨q1, q2, q3, q4⟩ := hac c1
        rw [c1]
        refine ⟨fun c_ => ?_, fun c_ => absurd (rfl) c_⟩
        conv => whnf
        refine hK _ _ _ _ _ _ (go hc 3 (fun K hK => ?_))
        conv => whnf
        refine ⟨_, hm.M, Nat.le_of_ble_eq_true rfl, ?_⟩
        conv => whnf
        refine callee hc (e_makeAcross hm k4.2.2.2.1 k4.2.2.2.2.1 hGl M4 Mo4 (by omega) rfl e33 e34 hgi q1 q2 q3 q4 ?_)
        intro m5 h5 hm M5 f5
        conv => whnf
        try simp only [nI_1]
        refine hK _ _ _ _ _ _ (Runs.less hc [0, 1] rfl rfl rfl rfl (n151 m5 h5 hm M5 (f4'.trans (f5.mono (by decide)))))
      · rw [if_neg c1] at n151
        have hde : ∀ g ∈ G, ∀ k ∈ C ++ [((1, 0, 0) : V3)], inL (dot k g) := fun g hg k hk => by
          rcases List.mem_append.mp hk with q | q
          · exact hd k q g hg
          · rw [List.mem_singleton.mp q]; exact inL_e0 (hgi g hg)
        refine ⟨fun c_ => absurd c_ (fun q => c1 ((nI_eq (by omega) (by decide)).mp q)), fun c_ => ?_⟩
        conv => whnf
        refine hK _ _ _ _ _ _ ?_
        refine go hc 3 (fun K hK => ?_)
        conv => whnf
        refine ⟨_, hm.M, Nat.le_of_ble_eq_true rfl, ?_⟩
        conv => whnf
        refine callee hc (e_makeEnds hm k4 b4 rfl (by omega) hde (fun q => hce (by omega)) hgi M4 Mo4 e33 e34 ?_)
        intro m5 h5 hm M5 f5
        conv => whnf
        try simp only [nI_1]
        refine hK _ _ _ _ _ _ (Runs.less hc [0, 1] rfl rfl rfl rfl (n151 m5 h5 hm M5 (f4'.trans (f5.mono (by decide)))))
end ESETTLE
