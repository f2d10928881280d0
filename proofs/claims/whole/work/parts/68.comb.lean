/-! the reference combines and maps -/
def cmbK (x : Int32) : Bool := decide (¬ (x < 0 ∨ ¬ x ≤ 2))
def rCmb (a : RSt) (k i j t : Int32) : RR :=
  if slotB i = false ∨ slotB j = false ∨ slotB t = false then (1, 0, a) else if cmbK k = false then (2, 0, a)
  else if k ≠ 1 ∧ (a.1 i.toNatClampNeg 4 = [] ∨ a.1 j.toNatClampNeg 4 = []) then (0, -1, (drT a.1 t.toNatClampNeg, a.2))
  else if k = 0 then rFin a t.toNatClampNeg (ofC (cnL (cnL [] a.1 i.toNatClampNeg) a.1 j.toNatClampNeg)) 3 false
  else if k = 2 then rFin a t.toNatClampNeg (ofG (agL [] (tsL a.1 i.toNatClampNeg j.toNatClampNeg))) 3 false
  else rFin a t.toNatClampNeg (ofG (agL (agL [] (gnL a.1 i.toNatClampNeg)) (gnL a.1 j.toNatClampNeg))) 3 false
section ECMB
variable {sc : Scr} {d : Nat} {m : MM} {D Z h : PH} {Q : Out → PH → Prop} {a : RSt} {G : List V3}
theorem acL_len16 {T : Tab} {m : MM} (hT : Tb m T) {C : List V3} {i : Nat} (hi : i < 4) : (cnL C T i).length ≤ C.length + 64 := by
  unfold cnL
  have h1 := acL_len true (T i 0) C
  have h2 := acL_len false (T i 1) (acL true C (T i 0))
  have h3 := (hT i 0 hi (by omega)).2.2
  have h4 := (hT i 1 hi (by omega)).2.2
  omega
theorem gnL_len16 {T : Tab} {m : MM} (hT : Tb m T) {C : List V3} {i : Nat} (hi : i < 4) : (agL C (gnL T i)).length ≤ C.length + 64 := by
  have h1 := agL_len (gnL T i) C
  have h2 := lnG_len (T i 2)
  have h3 := (hT i 2 hi (by omega)).2.2
  have h4 := (hT i 3 hi (by omega)).2.2
  have h5 := (hT i 4 hi (by omega)).2.2
  unfold gnL at h1 ⊢
  rw [List.length_append, List.length_append] at h1
  omega
theorem cmbK_nat {x : Int32} (h : cmbK x = true) : ∃ k, k < 3 ∧ x = nI k := by
  have h := of_decide_eq_true h
  have h1 : ¬ x < 0 := fun q => h (Or.inl q)
  have h2 : x ≤ 2 := Classical.byContradiction fun q => h (Or.inr q)
  rcases pk_ix x (n := 3) (by decide) with q | q | q
  · exact absurd q h1
  · have q' : (3 : Int32) ≤ x := q
    rw [Int32.le_iff_toInt_le] at h2 q'
    have e5 : (3 : Int32).toInt = 3 := rfl
    have e4 : (2 : Int32).toInt = 2 := rfl
    omega
  · exact q
theorem e_combine (hm : MR m D Z h) (hr : RZ m a) (hok : okS2 a) {k i j t : Int32}
    (hC : ∀ i j, i < 4 → j < 4 → a.1 i 4 ≠ [] → a.1 j 4 ≠ [] → okC2 (cnL (cnL [] a.1 i) a.1 j)) (hS : ∀ i j, i < 4 → j < 4 → a.1 i 4 ≠ [] → a.1 j 4 ≠ [] → okG2 (agL [] (tsL a.1 i j))) (hH : ∀ i j, i < 4 → j < 4 → okG2 (agL (agL [] (gnL a.1 i)) (gnL a.1 j)))
    (hQ : ∀ m' h', MR m' D Z h' → RZ m' (rCmb a k i j t).2.2 → m' 12 0 = ((rCmb a k i j t).1 : Int) → Q (.inl (some (.int (rCmb a k i j t).2.1))) h') : wpC sc (d + 8) 130 [.ref 60, .int k, .int i, .int j, .int t] h Q := by
  unfold rCmb at hQ
  have n27 : ∀ {call : Callee}, call = wpC sc (d + 7) → ∀ m1 h1, MR m1 D Z h1 → RZ m1 a → (slotB i = false ∨ slotB j = false ∨ slotB t = false) → Runs (d + 7) call sc m_X4_combine (qth (mTh m_X4_combine) Q) 27 [(0, .ref 60), (1, .int k), (2, .int i), (3, .int j), (4, .int t)] [] h1 0 0 := by
    intro call hc m1 h1 hm hr q
    rw [if_pos q] at hQ
    refine go hc 4 (fun K hK => ?_)
    conv => whnf
    refine ⟨_, hm.M, Nat.le_of_ble_eq_true rfl, ?_⟩
    conv => whnf
    refine callee hc (e_fail hm (n := 1) rfl ?_)
    intro m2 h2 hm c2 f2
    conv => whnf
    exact hQ m2 h2 hm (hr.fx f2 (by decide) (by decide) (by decide) (by decide) (by decide) (by decide) (by decide)) c2
  refine enter rfl rfl (fun call hc => go hc 6 (fun K hK => ?_))
  conv => whnf
  refine ⟨_, hm.M, Nat.le_of_ble_eq_true rfl, ?_⟩
  replace hm := hm.code (v := 0) rfl
  replace hr := hr.code 0
  have z0 : mu m 12 0 0 12 0 = 0 := mu_at _ _ _ _
  generalize mu m 12 0 0 = m1 at *
  conv => whnf
  refine ⟨Nat.le_of_ble_eq_true rfl, ?_⟩
  conv => whnf
  refine callee hc (e_isSlot ?_)
  conv => whnf
  cases hi0 : slotB i with
  | false =>
    refine ⟨fun c_ => ?_, fun c_ => absurd (rfl) c_⟩
    conv => whnf
    refine hK _ _ _ _ _ _ (n27 hc m1 _ hm hr (Or.inl hi0))
  | true =>
    refine ⟨fun c_ => absurd c_ (by decide), fun c_ => ?_⟩
    conv => whnf
    refine hK _ _ _ _ _ _ (go hc 3 (fun K hK => ?_))
    conv => whnf
    refine ⟨Nat.le_of_ble_eq_true rfl, ?_⟩
    conv => whnf
    refine callee hc (e_isSlot ?_)
    conv => whnf
    cases hj0 : slotB j with
    | false =>
      refine ⟨fun c_ => ?_, fun c_ => absurd (rfl) c_⟩
      conv => whnf
      refine hK _ _ _ _ _ _ (n27 hc m1 _ hm hr (Or.inr (Or.inl hj0)))
    | true =>
      refine ⟨fun c_ => absurd c_ (by decide), fun c_ => ?_⟩
      conv => whnf
      refine hK _ _ _ _ _ _ (go hc 3 (fun K hK => ?_))
      conv => whnf
      refine ⟨Nat.le_of_ble_eq_true rfl, ?_⟩
      conv => whnf
      refine callee hc (e_isSlot ?_)
      conv => whnf
      cases ht0 : slotB t with
      | false =>
        refine ⟨fun c_ => ?_, fun c_ => absurd (rfl) c_⟩
        conv => whnf
        refine hK _ _ _ _ _ _ (n27 hc m1 _ hm hr (Or.inr (Or.inr ht0)))
      | true =>
        rw [if_neg (by rw [hi0, hj0, ht0]; decide)] at hQ
        obtain ⟨ni, hi, he, hn⟩ := slot_nat hi0
        subst he
        obtain ⟨nj, hj, he, hn'⟩ := slot_nat hj0
        subst he
        obtain ⟨nt, ht, he, hn''⟩ := slot_nat ht0
        subst he
        rw [hn, hn', hn''] at hQ
        refine ⟨fun c_ => absurd c_ (by decide), fun c_ => ?_⟩
        conv => whnf
        refine hK _ _ _ _ _ _ ?_
        have n42 : ∀ h1, MR m1 D Z h1 → cmbK k = false → Runs (d + 7) call sc m_X4_combine (qth (mTh m_X4_combine) Q) 42 [(0, .ref 60), (1, .int k), (2, .int (nI ni)), (3, .int (nI nj)), (4, .int (nI nt))] [] h1 0 0 := fun h1 hm q => by
          rw [if_pos q] at hQ
          refine go hc 4 (fun K hK => ?_)
          conv => whnf
          refine ⟨_, hm.M, Nat.le_of_ble_eq_true rfl, ?_⟩
          conv => whnf
          refine callee hc (e_fail hm (n := 2) rfl ?_)
          intro m2 h2 hm c2 f2
          conv => whnf
          exact hQ m2 h2 hm (hr.fx f2 (by decide) (by decide) (by decide) (by decide) (by decide) (by decide) (by decide)) c2
        refine go hc 2 (fun K hK => ?_)
        conv => whnf
        by_cases c1 : k < 0
        · refine ⟨fun c_ => ?_, fun c_ => absurd (c1) c_⟩
          conv => whnf
          refine hK _ _ _ _ _ _ (n42 _ hm (decide_eq_false (fun q => q (Or.inl c1))))
        · refine ⟨fun c_ => absurd c_ (c1), fun c_ => ?_⟩
          conv => whnf
          refine hK _ _ _ _ _ _ (go hc 3 (fun K hK => ?_))
          conv => whnf
          by_cases c2 : k ≤ 2
          · have ck : cmbK k = true := decide_eq_true (fun q => q.elim c1 (fun z => z c2))
            rw [if_neg (by rw [ck]; decide)] at hQ
            obtain ⟨kn, hk3, he⟩ := cmbK_nat ck
            subst he
            have k0 : nI kn = 0 ↔ kn = 0 := nI_eq (by omega) (by decide)
            have k1 : nI kn = 1 ↔ kn = 1 := nI_eq (by omega) (by decide)
            have k2 : nI kn = 2 ↔ kn = 2 := nI_eq (by omega) (by decide)
            refine ⟨fun c_ => ?_, fun c_ => absurd (c2) c_⟩
            conv => whnf
            refine hK _ _ _ _ _ _ ?_
            refine go hc 5 (fun K hK => ?_)
            conv => whnf
            refine ⟨_, hm.M, Nat.le_of_ble_eq_true rfl, ?_⟩
            conv => whnf
            refine callee hc (e_begin hm ?_)
            intro m2 h2 hm g2 kn2 d2 f2
            conv => whnf
            have hr2 := hr.fx f2 (by decide) (by decide) (by decide) (by decide) (by decide) (by decide) (by decide)
            have z2 : m2 12 0 = 0 := by rw [f2 12 (by decide)]; exact z0
            have n73 : (nI kn ≠ 1 ∧ (a.1 ni 4 = [] ∨ a.1 nj 4 = [])) → Runs (d + 7) call sc m_X4_combine (qth (mTh m_X4_combine) Q) 73 [(0, .ref 60), (1, .int (nI kn)), (2, .int (nI ni)), (3, .int (nI nj)), (4, .int (nI nt))] [] h2 0 0 := fun q => by
              rw [if_pos q] at hQ
              refine go hc 5 (fun K hK => ?_)
              conv => whnf
              refine ⟨_, hm.M, Nat.le_of_ble_eq_true rfl, ?_⟩
              conv => whnf
              refine callee hc (e_drop hm rfl ht hr2.1 ?_)
              intro m3 h3 hm T3 f3
              conv => whnf
              exact hQ m3 h3 hm (hr2.tab T3 f3 (by decide) (by decide) (by decide) (by decide) (by decide)) (by rw [f3 12 (by decide)]; exact z2)
            have n81 : ¬ (nI kn ≠ 1 ∧ (a.1 ni 4 = [] ∨ a.1 nj 4 = [])) → Runs (d + 7) call sc m_X4_combine (qth (mTh m_X4_combine) Q) 81 [(0, .ref 60), (1, .int (nI kn)), (2, .int (nI ni)), (3, .int (nI nj)), (4, .int (nI nt))] [] h2 0 0 := fun nq => by
              rw [if_neg nq] at hQ
              have n141 : ∀ (M : Nat → List V3) (m' : MM) (h' : PH), MR m' D Z h' → RZ m' (upT a.1 nt M, a.2) → m' 12 0 = 0 → (∀ m' h', MR m' D Z h' → RZ m' (rFin a nt M 3 false).2.2 → m' 12 0 = ((rFin a nt M 3 false).1 : Int) → Q (.inl (some (.int (rFin a nt M 3 false).2.1))) h') →
                  Runs (d + 7) call sc m_X4_combine (qth (mTh m_X4_combine) Q) 141 [(0, .ref 60), (1, .int (nI kn)), (2, .int (nI ni)), (3, .int (nI nj)), (4, .int (nI nt)), (5, .int (nI (fltF M)))] [] h' 0 0 := by
                intro M m' h' hm hr' z' hq
                have hlt := flt_lt M
                unfold rFin at hq
                refine go hc 6 (fun K hK => ?_)
                conv => whnf
                refine ⟨_, hm.M, Nat.le_of_ble_eq_true rfl, ?_⟩
                conv => whnf
                refine callee hc (e_answer hm (f := fltF M) (lg := 3) rfl rfl rfl ht hlt (by omega) hr'.1 ?_)
                intro m3 h3 r hm f3 a0 a1
                conv => whnf
                by_cases cf : fltF M = 0
                · obtain ⟨rfl, y3⟩ := a0 cf
                  rw [upT_eq cf] at hr' ⊢
                  rw [if_pos cf, if_neg (by decide)] at hq
                  exact hq m3 h3 hm (hr'.fx f3 (by decide) (by decide) (by decide) (by decide) (by decide) (by decide) (by decide)) (by rw [y3]; exact z')
                · obtain ⟨rfl, y3⟩ := a1 cf
                  rw [upT_ne cf] at hr'
                  rw [if_neg cf] at hq
                  exact hq m3 h3 hm (hr'.fx f3 (by decide) (by decide) (by decide) (by decide) (by decide) (by decide) (by decide)) y3
              have n133 : ∀ (G : List V3) (m' : MM) (h' : PH), okG2 G → MR m' D Z h' → RZ m' a → m' 12 0 = 0 → RW m' 4 0 G → m' 14 0 = (G.length : Int) → (∀ k, k < 5 → m' 10 k = 0) → (∀ m' h', MR m' D Z h' → RZ m' (rFin a nt (ofG G) 3 false).2.2 → m' 12 0 = ((rFin a nt (ofG G) 3 false).1 : Int) → Q (.inl (some (.int (rFin a nt (ofG G) 3 false).2.1))) h') →
                  Runs (d + 7) call sc m_X4_combine (qth (mTh m_X4_combine) Q) 133 [(0, .ref 60), (1, .int (nI kn)), (2, .int (nI ni)), (3, .int (nI nj)), (4, .int (nI nt)), (5, .int 0)] [] h' 0 0 := by
                intro G m' h' hg hm hr' z' rr nn dd hq
                refine go hc 4 (fun K hK => ?_)
                conv => whnf
                refine ⟨_, hm.M, Nat.le_of_ble_eq_true rfl, ?_⟩
                conv => whnf
                refine callee hc (e_ofG hm rfl ht rr nn dd hr'.1 hg ?_)
                intro m4 h4 hm T4 f4
                conv => whnf
                refine hK _ _ _ _ _ _ (n141 (ofG G) m4 h4 hm (hr'.tab T4 f4 (by decide) (by decide) (by decide) (by decide) (by decide)) (by rw [f4 12 (by decide)]; exact z') hq)
              refine go hc 4 (fun K hK => ?_)
              conv => whnf
              by_cases c0 : kn = 0
              · rw [if_pos (k0.mpr c0)] at hQ
                have hne : a.1 ni 4 ≠ [] ∧ a.1 nj 4 ≠ [] := by
                  have h1 : nI kn ≠ 1 := fun q => by have := k1.mp q; omega
                  exact ⟨fun q => nq ⟨h1, Or.inl q⟩, fun q => nq ⟨h1, Or.inr q⟩⟩
                have len1 := acL_len16 hr2.1 (C := []) hi
                rw [List.length_nil] at len1
                refine ⟨fun c_ => ?_, fun c_ => absurd (k0.mpr c0) c_⟩
                conv => whnf
                refine hK _ _ _ _ _ _ (go hc 11 (fun K hK => ?_))
                conv => whnf
                refine ⟨_, hm.M, Nat.le_of_ble_eq_true rfl, ?_⟩
                conv => whnf
                refine callee hc (e_takeC (Kc := []) hm rfl hi hr2.1 hok.1 (fun i hi => absurd hi (Nat.not_lt_zero _)) kn2 (by simp) ?_)
                intro m3 h3 hm r3 n3 f3
                have hr3 := hr2.fx f3 (by decide) (by decide) (by decide) (by decide) (by decide) (by decide) (by decide)
                conv => whnf
                refine ⟨_, hm.M, Nat.le_of_ble_eq_true rfl, ?_⟩
                conv => whnf
                refine callee hc (e_takeC hm rfl hj hr3.1 hok.1 r3 n3 (by omega) ?_)
                intro m4 h4 hm r4 n4 f4
                have hr4 := hr3.fx f4 (by decide) (by decide) (by decide) (by decide) (by decide) (by decide) (by decide)
                conv => whnf
                refine ⟨_, hm.M, Nat.le_of_ble_eq_true rfl, ?_⟩
                conv => whnf
                refine callee hc (e_ofC hm rfl ht r4 n4 (fun k hk => by rw [f4 10 (by decide), f3 10 (by decide)]; exact d2 k hk) hr4.1 (hC ni nj hi hj hne.1 hne.2) ?_)
                intro m5 h5 hm T5 f5
                conv => whnf
                refine hK _ _ _ _ _ _ (n141 _ m5 h5 hm (hr4.tab T5 f5 (by decide) (by decide) (by decide) (by decide) (by decide)) (by rw [f5 12 (by decide), f4 12 (by decide), f3 12 (by decide)]; exact z2) hQ)
              · rw [if_neg (fun q => c0 (k0.mp q))] at hQ
                refine ⟨fun c_ => absurd c_ ((fun q => c0 (k0.mp q))), fun c_ => ?_⟩
                conv => whnf
                refine hK _ _ _ _ _ _ ?_
                refine go hc 3 (fun K hK => ?_)
                conv => whnf
                by_cases cc2 : kn = 2
                · rw [if_pos (k2.mpr cc2)] at hQ
                  have hne : a.1 ni 4 ≠ [] ∧ a.1 nj 4 ≠ [] := by
                    have h1 : nI kn ≠ 1 := fun q => by have := k1.mp q; omega
                    exact ⟨fun q => nq ⟨h1, Or.inl q⟩, fun q => nq ⟨h1, Or.inr q⟩⟩
                  refine ⟨fun c_ => ?_, fun c_ => absurd (k2.mpr cc2) c_⟩
                  conv => whnf
                  refine hK _ _ _ _ _ _ (go hc 5 (fun K hK => ?_))
                  conv => whnf
                  refine ⟨_, hm.M, Nat.le_of_ble_eq_true rfl, ?_⟩
                  conv => whnf
                  refine callee hc (e_takeSums hm rfl rfl hi hj hr2.1 hok.1 (fun i hi => absurd hi (Nat.not_lt_zero _)) g2 ?_)
                  intro m3 h3 hm r3 n3 f3
                  conv => whnf
                  refine hK _ _ _ _ _ _ (n133 _ m3 h3 (hS ni nj hi hj hne.1 hne.2) hm (hr2.fx f3 (by decide) (by decide) (by decide) (by decide) (by decide) (by decide) (by decide)) (by rw [f3 12 (by decide)]; exact z2) r3 n3 (fun k hk => by rw [f3 10 (by decide)]; exact d2 k hk) hQ)
                · rw [if_neg (fun q => cc2 (k2.mp q))] at hQ
                  have len1 := gnL_len16 hr2.1 (C := []) hi
                  rw [List.length_nil] at len1
                  refine ⟨fun c_ => absurd c_ ((fun q => cc2 (k2.mp q))), fun c_ => ?_⟩
                  conv => whnf
                  refine hK _ _ _ _ _ _ ?_
                  refine go hc 6 (fun K hK => ?_)
                  conv => whnf
                  refine ⟨_, hm.M, Nat.le_of_ble_eq_true rfl, ?_⟩
                  conv => whnf
                  refine callee hc (e_takeG (G := []) hm rfl hi hr2.1 hok.1 (fun i hi => absurd hi (Nat.not_lt_zero _)) g2 (by simp) ?_)
                  intro m3 h3 hm r3 n3 f3
                  have hr3 := hr2.fx f3 (by decide) (by decide) (by decide) (by decide) (by decide) (by decide) (by decide)
                  conv => whnf
                  refine ⟨_, hm.M, Nat.le_of_ble_eq_true rfl, ?_⟩
                  conv => whnf
                  refine callee hc (e_takeG hm rfl hj hr3.1 hok.1 r3 n3 (by omega) ?_)
                  intro m4 h4 hm r4 n4 f4
                  conv => whnf
                  refine hK _ _ _ _ _ _ (n133 _ m4 h4 (hH ni nj hi hj) hm (hr3.fx f4 (by decide) (by decide) (by decide) (by decide) (by decide) (by decide) (by decide)) (by rw [f4 12 (by decide), f3 12 (by decide)]; exact z2) r4 n4 (fun k hk => by rw [f4 10 (by decide), f3 10 (by decide)]; exact d2 k hk) hQ)
            by_cases c1' : kn = 1
            · refine ⟨fun c_ => ?_, fun c_ => absurd (k1.mpr c1') c_⟩
              conv => whnf
              try simp only [nI_1]
              refine hK _ _ _ _ _ _ (Runs.less hc [0, 1, 2, 3, 4] rfl rfl rfl rfl (n81 fun q => q.1 (k1.mpr c1')))
            · refine ⟨fun c_ => absurd c_ ((fun q => c1' (k1.mp q))), fun c_ => ?_⟩
              conv => whnf
              refine hK _ _ _ _ _ _ (go hc 4 (fun K hK => ?_))
              conv => whnf
              refine ⟨_, hm.M, Nat.le_of_ble_eq_true rfl, ?_⟩
              conv => whnf
              refine callee hc (e_isEmpty hm rfl hi (hr2.1 ni 4 hi (by omega)) ?_)
              conv => whnf
              by_cases ce : a.1 ni 4 = []
              · rw [decide_eq_true ce]
                refine ⟨fun c_ => absurd c_ (by decide), fun c_ => ?_⟩
                conv => whnf
                refine hK _ _ _ _ _ _ (n73 ⟨fun q => c1' (k1.mp q), Or.inl ce⟩)
              · rw [decide_eq_false ce]
                refine ⟨fun c_ => ?_, fun c_ => absurd (rfl) c_⟩
                conv => whnf
                refine hK _ _ _ _ _ _ (go hc 4 (fun K hK => ?_))
                conv => whnf
                refine ⟨_, hm.M, Nat.le_of_ble_eq_true rfl, ?_⟩
                conv => whnf
                refine callee hc (e_isEmpty hm rfl hj (hr2.1 nj 4 hj (by omega)) ?_)
                conv => whnf
                by_cases ce2 : a.1 nj 4 = []
                · rw [decide_eq_true ce2]
                  refine ⟨fun c_ => absurd c_ (by decide), fun c_ => ?_⟩
                  conv => whnf
                  refine hK _ _ _ _ _ _ (n73 ⟨fun q => c1' (k1.mp q), Or.inr ce2⟩)
                · rw [decide_eq_false ce2]
                  refine ⟨fun c_ => ?_, fun c_ => absurd (rfl) c_⟩
                  conv => whnf
                  refine hK _ _ _ _ _ _ (n81 fun q => q.2.elim ce ce2)
          · refine ⟨fun c_ => absurd c_ (c2), fun c_ => ?_⟩
            conv => whnf
            refine hK _ _ _ _ _ _ (n42 _ hm (decide_eq_false (fun q => q (Or.inr c2))))
theorem e_addGx (hm : MR m D Z h) (v : V3) {x y z : Int64} (hx : x = Int64.ofInt v.1) (hy : y = Int64.ofInt v.2.1) (hz : z = Int64.ofInt v.2.2) (hv : inV v) (hG : RW m 4 0 G) (hgn : m 14 0 = (G.length : Int)) (hGl : G.length < 600)
    (hQ : ∀ m' h', MR m' D Z h' → RW m' 4 0 (agF G v) → m' 14 0 = ((agF G v).length : Int) → Fx [4, 14] m m' → (∀ x, 3 * G.length + 3 ≤ x → m' 4 x = m 4 x) → Q (.inl none) h') : wpC sc (d + 1) 92 [.ref 60, .long x, .long y, .long z] h Q := by
  subst hx; subst hy; subst hz
  have F5 := mF_of hgn
  unfold agF at hQ
  have go20 : ∀ {call : Callee}, call = wpC sc d → v ≠ (0, 0, 0) → Runs d call sc m_X4_addGenerator (qth (mTh m_X4_addGenerator) Q) 20 [(0, .ref 60), (1, .long (Int64.ofInt v.1)), (3, .long (Int64.ofInt v.2.1)), (5, .long (Int64.ofInt v.2.2))] [] h 0 0 := by
    intro call hc hne
    rw [if_neg hne] at hQ
    refine go hc 35 (fun K hK => ?_)
    conv => whnf
    refine ⟨_, _, hm.M, rfl, ?_⟩
    conv => whnf
    refine ⟨_, _, hm.M, rfl, ?_⟩
    rw [F5]
    conv => whnf
    refine ⟨_, _, hm.L4, ixv (k := (3) * (G.length)) (im ((rfl : (3 : Int32) = nI 3)) ((rfl : nI (G.length) = nI (G.length)))) (by omega) (Nat.le_of_ble_eq_true rfl), ?_⟩
    rw [ixc (k := (3) * (G.length)) (im ((rfl : (3 : Int32) = nI 3)) ((rfl : nI (G.length) = nI (G.length)))) (by omega)]
    replace hm := hm.sL (a := 4) (i := (3) * (G.length)) (by decide) ((rfl : Int64.ofInt v.1 = Int64.ofInt v.1))
    generalize hg1 : mu m 4 (3 * G.length) v.1 = m1 at hm
    replace F5 : mF m1 14 = nI G.length := by rw [← hg1]; exact F5
    conv => whnf
    refine ⟨_, _, hm.M, rfl, ?_⟩
    conv => whnf
    refine ⟨_, _, hm.M, rfl, ?_⟩
    rw [F5]
    conv => whnf
    refine ⟨_, _, hm.L4, ixv (k := ((3) * (G.length)) + (1)) (ia (im ((rfl : (3 : Int32) = nI 3)) ((rfl : nI (G.length) = nI (G.length)))) ((rfl : (1 : Int32) = nI 1))) (by omega) (Nat.le_of_ble_eq_true rfl), ?_⟩
    rw [ixc (k := ((3) * (G.length)) + (1)) (ia (im ((rfl : (3 : Int32) = nI 3)) ((rfl : nI (G.length) = nI (G.length)))) ((rfl : (1 : Int32) = nI 1))) (by omega)]
    replace hm := hm.sL (a := 4) (i := ((3) * (G.length)) + (1)) (by decide) ((rfl : Int64.ofInt v.2.1 = Int64.ofInt v.2.1))
    generalize hg2 : mu m1 4 (3 * G.length + 1) v.2.1 = m2 at hm
    replace F5 : mF m2 14 = nI G.length := by rw [← hg2]; exact F5
    conv => whnf
    refine ⟨_, _, hm.M, rfl, ?_⟩
    conv => whnf
    refine ⟨_, _, hm.M, rfl, ?_⟩
    rw [F5]
    conv => whnf
    refine ⟨_, _, hm.L4, ixv (k := ((3) * (G.length)) + (2)) (ia (im ((rfl : (3 : Int32) = nI 3)) ((rfl : nI (G.length) = nI (G.length)))) ((rfl : (2 : Int32) = nI 2))) (by omega) (Nat.le_of_ble_eq_true rfl), ?_⟩
    rw [ixc (k := ((3) * (G.length)) + (2)) (ia (im ((rfl : (3 : Int32) = nI 3)) ((rfl : nI (G.length) = nI (G.length)))) ((rfl : (2 : Int32) = nI 2))) (by omega)]
    replace hm := hm.sL (a := 4) (i := ((3) * (G.length)) + (2)) (by decide) ((rfl : Int64.ofInt v.2.2 = Int64.ofInt v.2.2))
    generalize hg3 : mu m2 4 (3 * G.length + 2) v.2.2 = m3 at hm
    replace F5 : mF m3 14 = nI G.length := by rw [← hg3]; exact F5
    conv => whnf
    refine ⟨_, _, hm.M, rfl, ?_⟩
    rw [F5]
    conv => whnf
    refine ⟨_, hm.M, Nat.le_of_ble_eq_true rfl, ?_⟩
    replace hm := hm.gn (v := ((G ++ [v]).length : Int)) (by rw [List.length_append, List.length_singleton, nI_ofI, ← nI_1])
    conv => whnf
    refine hQ _ _ hm ?_ (mu_at _ _ _ _) ?_ (fun x hx => ?_)
    · refine RW.push hG (fun j hj => ?_) ?_
      · show m3 4 j = m 4 j
        rw [← hg3, mu_at_ne _ _ _ (by omega), ← hg2, mu_at_ne _ _ _ (by omega), ← hg1, mu_at_ne _ _ _ (by omega)]
      · show vAt m3 4 (0 + 3 * G.length) = v
        rw [Nat.zero_add]
        unfold vAt
        rw [← hg3, mu_at, mu_at_ne _ _ _ (by omega), mu_at_ne _ _ _ (by omega), ← hg2, mu_at, mu_at_ne _ _ _ (by omega), ← hg1, mu_at]
    · refine Fx.mu ?_ (by decide)
      rw [← hg3, ← hg2, ← hg1]
      exact ((Fx.refl.mu (by decide)).mu (by decide)).mu (by decide)
    · show m3 4 x = m 4 x
      rw [← hg3, mu_at_ne _ _ _ (by omega), ← hg2, mu_at_ne _ _ _ (by omega), ← hg1, mu_at_ne _ _ _ (by omega)]
  refine enter rfl rfl (fun call hc => go hc 4 (fun K hK => ?_))
  conv => whnf
  by_cases c1 : v.1 = 0
  · refine ⟨fun c_ => ?_, fun c_ => absurd ((kEq0 hv.1).mpr c1) c_⟩
    conv => whnf
    refine hK _ _ _ _ _ _ (go hc 4 (fun K hK => ?_))
    conv => whnf
    by_cases c2 : v.2.1 = 0
    · refine ⟨fun c_ => ?_, fun c_ => absurd ((kEq0 hv.2.1).mpr c2) c_⟩
      conv => whnf
      refine hK _ _ _ _ _ _ (go hc 4 (fun K hK => ?_))
      conv => whnf
      by_cases c3 : v.2.2 = 0
      · refine ⟨fun c_ => ?_, fun c_ => absurd ((kEq0 hv.2.2).mpr c3) c_⟩
        conv => whnf
        refine hK _ _ _ _ _ _ (go hc 1 (fun K hK => ?_))
        conv => whnf
        rw [if_pos (Prod.ext c1 (Prod.ext c2 c3))] at hQ
        exact hQ m h hm hG hgn Fx.refl (fun _ _ => rfl)
      · refine ⟨fun c_ => absurd c_ (fun q => c3 ((kEq0 hv.2.2).mp q)), fun c_ => ?_⟩
        conv => whnf
        try simp only [nI_1]
        refine hK _ _ _ _ _ _ (Runs.less hc [0, 1, 3, 5] rfl rfl rfl rfl (go20 hc fun q => c3 (congrArg (fun v : V3 => v.2.2) q)))
    · refine ⟨fun c_ => absurd c_ (fun q => c2 ((kEq0 hv.2.1).mp q)), fun c_ => ?_⟩
      conv => whnf
      try simp only [nI_1]
      refine hK _ _ _ _ _ _ (Runs.less hc [0, 1, 3, 5] rfl rfl rfl rfl (go20 hc fun q => c2 (congrArg (fun v : V3 => v.2.1) q)))
  · refine ⟨fun c_ => absurd c_ (fun q => c1 ((kEq0 hv.1).mp q)), fun c_ => ?_⟩
    conv => whnf
    try simp only [nI_1]
    refine hK _ _ _ _ _ _ (Runs.less hc [0, 1, 3, 5] rfl rfl rfl rfl (go20 hc fun q => c1 (congrArg Prod.fst q)))
end ECMB
