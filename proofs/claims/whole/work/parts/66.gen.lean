/-! the reference generates -/
theorem i0_toInt {w : Int} (h : bdI 30 w) : (Int32.ofInt w).toInt = w := Int32.toInt_ofInt_of_le (by have := h.1; omega) (by have := h.2; omega)
theorem i0_lt {w : Int} (h : bdI 30 w) : Int32.ofInt w < 0 ↔ w < 0 := by rw [Int32.lt_iff_toInt_lt, i0_toInt h]; exact Iff.rfl
theorem i0_le {w : Int} (h : bdI 30 w) : Int32.ofInt w ≤ 0 ↔ w ≤ 0 := by rw [Int32.le_iff_toInt_le, i0_toInt h]; exact Iff.rfl
theorem i0_eq {w : Int} (h : bdI 30 w) : Int32.ofInt w = 0 ↔ w = 0 := ⟨fun q => by rw [← i0_toInt h, q]; rfl, fun q => by rw [q]; rfl⟩
abbrev gnBad (a : RSt) (b : Bool) : Prop := a.2.2.1 ≠ 3 ∨ a.2.1 0 < 0 ∨ (a.2.1 0 = 0 ∧ a.2.1 1 = 0 ∧ a.2.1 2 = 0) ∨ (0 < a.2.1 0 ∧ b = true)
def genL (a : RSt) (i : Nat) (b : Bool) : List V3 := if b = true then agF (agF (agL [] (gnL a.1 i)) (num3 a)) (0, -(a.2.1 1), -(a.2.1 2)) else agF (agL [] (gnL a.1 i)) (num3 a)
def rGen (a : RSt) (x : Int32) (b : Bool) : RR := if slotB x = false then (1, 0, a) else if gnBad a b then (2, 0, a) else if a.1 x.toNatClampNeg 4 = [] ∧ a.2.1 0 = 0 then (3, 0, a) else rFin a x.toNatClampNeg (ofG (genL a x.toNatClampNeg b)) 4 true
section EGEN
variable {sc : Scr} {d : Nat} {m : MM} {D Z h : PH} {Q : Out → PH → Prop} {a : RSt}
theorem e_generate (hm : MR m D Z h) (hr : RZ m a) (hok : okS2 a) {x : Int32} {b : Bool} (hG : ∀ i, i < 4 → ¬ gnBad a b → ¬ (a.1 i 4 = [] ∧ a.2.1 0 = 0) → okG2 (genL a i b)) (hl : ∀ i, i < 4 → (agL [] (gnL a.1 i)).length ≤ 598)
    (hQ : ∀ m' h', MR m' D Z h' → RZ m' (rGen a x b).2.2 → m' 12 0 = ((rGen a x b).1 : Int) → Q (.inl (some (.int (rGen a x b).2.1))) h') : wpC sc (d + 8) 128 [.ref 60, .int x, .int (bI01 b)] h Q := by
  unfold rGen at hQ
  have hs6 := hok.2.2
  have q0 := hok.2.1 0 (by omega)
  have q1 := hok.2.1 1 (by omega)
  have q2 := hok.2.1 2 (by omega)
  refine enter rfl rfl (fun call hc => go hc 6 (fun K hK => ?_))
  conv => whnf
  refine ⟨_, hm.M, Nat.le_of_ble_eq_true rfl, ?_⟩
  replace hm := hm.code (v := 0) rfl
  replace hr := hr.code 0
  have z0 : mu m 12 0 0 12 0 = 0 := mu_at _ _ _ _
  generalize mu m 12 0 0 = m1 at *
  conv => whnf
  refine ⟨Nat.le_of_ble_eq_true rfl, ?_⟩
  conv => whnf
  refine callee hc (e_isSlot ?_)
  conv => whnf
  cases hx : slotB x with
  | false =>
    rw [if_pos hx] at hQ
    refine ⟨fun c_ => ?_, fun c_ => absurd (rfl) c_⟩
    conv => whnf
    refine hK _ _ _ _ _ _ (go hc 4 (fun K hK => ?_))
    conv => whnf
    refine ⟨_, hm.M, Nat.le_of_ble_eq_true rfl, ?_⟩
    conv => whnf
    refine callee hc (e_fail hm (n := 1) rfl ?_)
    intro m2 h2 hm c2 f2
    conv => whnf
    exact hQ m2 h2 hm (hr.fx f2 (by decide) (by decide) (by decide) (by decide) (by decide) (by decide) (by decide)) c2
  | true =>
    rw [if_neg (by rw [hx]; decide)] at hQ
    obtain ⟨i, hi, he, hn⟩ := slot_nat hx
    subst he
    rw [hn] at hQ
    have F1 := hr.F1
    refine ⟨fun c_ => absurd c_ (by decide), fun c_ => ?_⟩
    conv => whnf
    refine hK _ _ _ _ _ _ ?_
    have n75 : gnBad a b → ∀ h1, MR m1 D Z h1 → Runs (d + 7) call sc m_X4_generate (qth (mTh m_X4_generate) Q) 75 [(0, .ref 60), (1, .int (nI i)), (2, .int (bI01 b)), (3, .int (Int32.ofInt (a.2.1 0))), (4, .int (Int32.ofInt (a.2.1 1))), (5, .int (Int32.ofInt (a.2.1 2)))] [] h1 0 0 := fun q h1 hm => by
      rw [if_pos q] at hQ
      refine go hc 4 (fun K hK => ?_)
      conv => whnf
      refine ⟨_, hm.M, Nat.le_of_ble_eq_true rfl, ?_⟩
      conv => whnf
      refine callee hc (e_fail hm (n := 2) rfl ?_)
      intro m2 h2 hm c2 f2
      conv => whnf
      exact hQ m2 h2 hm (hr.fx f2 (by decide) (by decide) (by decide) (by decide) (by decide) (by decide) (by decide)) c2
    have n99 : ¬ gnBad a b → ¬ (a.1 i 4 = [] ∧ a.2.1 0 = 0) → ∀ h1, MR m1 D Z h1 → Runs (d + 7) call sc m_X4_generate (qth (mTh m_X4_generate) Q) 99 [(0, .ref 60), (1, .int (nI i)), (2, .int (bI01 b)), (3, .int (Int32.ofInt (a.2.1 0))), (4, .int (Int32.ofInt (a.2.1 1))), (5, .int (Int32.ofInt (a.2.1 2)))] [] h1 0 0 := fun nb ne h1 hm => by
      rw [if_neg nb, if_neg ne] at hQ
      have hg2 := hG i hi nb ne
      have hll := hl i hi
      have hal := agF_len (agL [] (gnL a.1 i)) (num3 a)
      -- the end
      have n137 : ∀ m5 h5, MR m5 D Z h5 → RZ m5 a → m5 12 0 = 0 → (∀ k, k < 5 → m5 10 k = 0) → RW m5 4 0 (genL a i b) → m5 14 0 = ((genL a i b).length : Int) → Runs (d + 7) call sc m_X4_generate (qth (mTh m_X4_generate) Q) 137 [(0, .ref 60), (1, .int (nI i)), (2, .int (bI01 b)), (3, .int (Int32.ofInt (a.2.1 0))), (4, .int (Int32.ofInt (a.2.1 1))), (5, .int (Int32.ofInt (a.2.1 2)))] [] h5 0 0 := by
        intro m5 h5 hm hr5 z5 d5 r5 n5
        refine go hc 6 (fun K hK => ?_)
        conv => whnf
        refine ⟨_, hm.M, Nat.le_of_ble_eq_true rfl, ?_⟩
        conv => whnf
        refine callee hc (e_ofG hm rfl hi r5 n5 d5 hr5.1 hg2 ?_)
        intro m6 h6 hm T6 f6
        conv => whnf
        have hr6 := hr5.tab T6 f6 (by decide) (by decide) (by decide) (by decide) (by decide)
        have z6 : m6 12 0 = 0 := by rw [f6 12 (by decide)]; exact z5
        unfold rFin at hQ
        by_cases cf : fltF (ofG (genL a i b)) = 0
        · rw [if_pos cf, if_pos rfl] at hQ
          rw [upT_eq cf] at hr6
          rw [cf]
          refine ⟨fun c_ => ?_, fun c_ => absurd (rfl) c_⟩
          conv => whnf
          refine hK _ _ _ _ _ _ (go hc 9 (fun K hK => ?_))
          conv => whnf
          refine ⟨_, hm.M, Nat.le_of_ble_eq_true rfl, ?_⟩
          replace hm := hm.said (v := 0) rfl
          replace hr6 := hr6.said
          conv => whnf
          refine ⟨_, hm.M, Nat.le_of_ble_eq_true rfl, ?_⟩
          conv => whnf
          refine callee hc (e_answer hm (f := 0) (lg := 4) rfl rfl rfl hi (by omega) (by omega) hr6.1 ?_)
          intro m2 h2 r hm f2 a0 _
          obtain ⟨rfl, y2⟩ := a0 rfl
          conv => whnf
          exact hQ m2 h2 hm (hr6.fx f2 (by decide) (by decide) (by decide) (by decide) (by decide) (by decide) (by decide)) (by rw [y2]; exact z6)
        · rw [if_neg cf] at hQ
          rw [upT_ne cf] at hr6
          have hlt := flt_lt (ofG (genL a i b))
          refine ⟨fun c_ => absurd c_ (nI_ne0 (by omega) (by omega)), fun c_ => ?_⟩
          conv => whnf
          refine hK _ _ _ _ _ _ (go hc 6 (fun K hK => ?_))
          conv => whnf
          refine ⟨_, hm.M, Nat.le_of_ble_eq_true rfl, ?_⟩
          conv => whnf
          refine callee hc (e_answer hm (f := fltF (ofG (genL a i b))) (lg := 4) rfl rfl rfl hi hlt (by omega) hr6.1 ?_)
          intro m2 h2 r hm f2 _ a1
          obtain ⟨rfl, y2⟩ := a1 cf
          conv => whnf
          exact hQ m2 h2 hm (hr6.fx f2 (by decide) (by decide) (by decide) (by decide) (by decide) (by decide) (by decide)) y2
      unfold genL at n137
      refine go hc 15 (fun K hK => ?_)
      conv => whnf
      refine ⟨_, hm.M, Nat.le_of_ble_eq_true rfl, ?_⟩
      conv => whnf
      refine callee hc (e_begin hm ?_)
      intro m3 h3 hm g3 k3 d3 f3
      have hr3 := hr.fx f3 (by decide) (by decide) (by decide) (by decide) (by decide) (by decide) (by decide)
      conv => whnf
      refine ⟨_, hm.M, Nat.le_of_ble_eq_true rfl, ?_⟩
      conv => whnf
      refine callee hc (e_takeG (G := []) hm rfl hi hr3.1 hok.1 (fun i hi => absurd hi (Nat.not_lt_zero _)) g3 (by simp) ?_)
      intro m4 h4 hm r4 n4 f4
      have hr4 := hr3.fx f4 (by decide) (by decide) (by decide) (by decide) (by decide) (by decide) (by decide)
      conv => whnf
      refine ⟨_, hm.M, Nat.le_of_ble_eq_true rfl, ?_⟩
      conv => whnf
      refine callee hc (e_addG hm (num3 a) (i32_l q0) (i32_l q1) (i32_l q2) ⟨bd30_in q0, bd30_in q1, bd30_in q2⟩ r4 n4 (by omega) ?_)
      intro m5 h5 hm r5 n5 f5
      have hr5 := hr4.fx f5 (by decide) (by decide) (by decide) (by decide) (by decide) (by decide) (by decide)
      conv => whnf
      have z5 : m5 12 0 = 0 := by rw [f5 12 (by decide), f4 12 (by decide), f3 12 (by decide)]; exact z0
      have d5 : ∀ k, k < 5 → m5 10 k = 0 := fun k hk => by rw [f5 10 (by decide), f4 10 (by decide)]; exact d3 k hk
      cases b with
      | false =>
        refine ⟨fun c_ => ?_, fun c_ => absurd (rfl) c_⟩
        conv => whnf
        try simp only [nI_1]
        refine hK _ _ _ _ _ _ (Runs.less hc [0, 1, 2, 3, 4, 5] rfl rfl rfl rfl (n137 m5 h5 hm hr5 z5 d5 r5 n5))
      | true =>
        refine ⟨fun c_ => absurd c_ (by decide), fun c_ => ?_⟩
        conv => whnf
        refine hK _ _ _ _ _ _ (go hc 9 (fun K hK => ?_))
        conv => whnf
        refine ⟨_, hm.M, Nat.le_of_ble_eq_true rfl, ?_⟩
        conv => whnf
        refine callee hc (e_addG hm (0, -(a.2.1 1), -(a.2.1 2)) rfl (i32_n q1) (i32_n q2) ⟨inL_0, bd30_in q1.neg, bd30_in q2.neg⟩ r5 n5 (by omega) ?_)
        intro m6 h6 hm r6 n6 f6
        conv => whnf
        try simp only [nI_1]
        refine hK _ _ _ _ _ _ (Runs.less hc [0, 1, 2, 3, 4, 5] rfl rfl rfl rfl (n137 m6 h6 hm (hr5.fx f6 (by decide) (by decide) (by decide) (by decide) (by decide) (by decide) (by decide)) (by rw [f6 12 (by decide)]; exact z5) (fun k hk => by rw [f6 10 (by decide)]; exact d5 k hk) r6 n6))
    have n81 : ¬ gnBad a b → ∀ h1, MR m1 D Z h1 → Runs (d + 7) call sc m_X4_generate (qth (mTh m_X4_generate) Q) 81 [(0, .ref 60), (1, .int (nI i)), (2, .int (bI01 b)), (3, .int (Int32.ofInt (a.2.1 0))), (4, .int (Int32.ofInt (a.2.1 1))), (5, .int (Int32.ofInt (a.2.1 2)))] [] h1 0 0 := fun nb h1 hm => by
      refine go hc 4 (fun K hK => ?_)
      conv => whnf
      refine ⟨_, hm.M, Nat.le_of_ble_eq_true rfl, ?_⟩
      conv => whnf
      refine callee hc (e_isEmpty hm rfl hi (hr.1 i 4 hi (by omega)) ?_)
      conv => whnf
      by_cases ce : a.1 i 4 = []
      · rw [decide_eq_true ce]
        refine ⟨fun c_ => absurd c_ (by decide), fun c_ => ?_⟩
        conv => whnf
        refine hK _ _ _ _ _ _ (go hc 2 (fun K hK => ?_))
        conv => whnf
        by_cases cw : a.2.1 0 = 0
        · rw [if_neg nb, if_pos ⟨ce, cw⟩] at hQ
          refine ⟨fun c_ => ?_, fun c_ => absurd ((i0_eq q0).mpr cw) c_⟩
          conv => whnf
          refine hK _ _ _ _ _ _ (go hc 4 (fun K hK => ?_))
          conv => whnf
          refine ⟨_, hm.M, Nat.le_of_ble_eq_true rfl, ?_⟩
          conv => whnf
          refine callee hc (e_fail hm (n := 3) rfl ?_)
          intro m2 h2 hm c2 f2
          conv => whnf
          exact hQ m2 h2 hm (hr.fx f2 (by decide) (by decide) (by decide) (by decide) (by decide) (by decide) (by decide)) c2
        · refine ⟨fun c_ => absurd c_ (fun q => cw ((i0_eq q0).mp q)), fun c_ => ?_⟩
          conv => whnf
          refine hK _ _ _ _ _ _ (n99 nb (fun q => cw q.2) h1 hm)
      · rw [decide_eq_false ce]
        refine ⟨fun c_ => ?_, fun c_ => absurd (rfl) c_⟩
        conv => whnf
        refine hK _ _ _ _ _ _ (n99 nb (fun q => ce q.1) h1 hm)
    have n67 : a.2.2.1 = 3 → ¬ a.2.1 0 < 0 → ¬ (a.2.1 0 = 0 ∧ a.2.1 1 = 0 ∧ a.2.1 2 = 0) → ∀ h1, MR m1 D Z h1 → Runs (d + 7) call sc m_X4_generate (qth (mTh m_X4_generate) Q) 67 [(0, .ref 60), (1, .int (nI i)), (2, .int (bI01 b)), (3, .int (Int32.ofInt (a.2.1 0))), (4, .int (Int32.ofInt (a.2.1 1))), (5, .int (Int32.ofInt (a.2.1 2)))] [] h1 0 0 := fun e3 nlt nz h1 hm => by
      refine go hc 2 (fun K hK => ?_)
      conv => whnf
      by_cases cw : a.2.1 0 ≤ 0
      · refine ⟨fun c_ => ?_, fun c_ => absurd ((i0_le q0).mpr cw) c_⟩
        conv => whnf
        refine hK _ _ _ _ _ _ (n81 (fun q => by rcases q with q | q | q | q; exact q e3; exact nlt q; exact nz q; exact absurd q.1 (by omega)) h1 hm)
      · refine ⟨fun c_ => absurd c_ (fun q => cw ((i0_le q0).mp q)), fun c_ => ?_⟩
        conv => whnf
        refine hK _ _ _ _ _ _ (go hc 2 (fun K hK => ?_))
        conv => whnf
        cases b with
        | false =>
          refine ⟨fun c_ => ?_, fun c_ => absurd (rfl) c_⟩
          conv => whnf
          refine hK _ _ _ _ _ _ (n81 (fun q => by rcases q with q | q | q | q; exact q e3; exact nlt q; exact nz q; exact absurd q.2 (by decide)) h1 hm)
        | true =>
          refine ⟨fun c_ => absurd c_ (by decide), fun c_ => ?_⟩
          conv => whnf
          refine hK _ _ _ _ _ _ (n75 (Or.inr (Or.inr (Or.inr ⟨by omega, rfl⟩))) h1 hm)
    refine go hc 19 (fun K hK => ?_)
    conv => whnf
    refine ⟨_, _, hm.M, rfl, ?_⟩
    conv => whnf
    refine Or.inr ⟨_, _, hm.I1, ixv (k := 0) ((rfl : (0 : Int32) = nI 0)) (by omega) (Nat.le_of_ble_eq_true rfl), ?_⟩
    rw [ixc (k := 0) ((rfl : (0 : Int32) = nI 0)) (by omega)]
    conv => whnf
    refine ⟨_, _, hm.M, rfl, ?_⟩
    conv => whnf
    refine Or.inr ⟨_, _, hm.I1, ixv (k := 1) ((rfl : (1 : Int32) = nI 1)) (by omega) (Nat.le_of_ble_eq_true rfl), ?_⟩
    rw [ixc (k := 1) ((rfl : (1 : Int32) = nI 1)) (by omega)]
    conv => whnf
    refine ⟨_, _, hm.M, rfl, ?_⟩
    conv => whnf
    refine Or.inr ⟨_, _, hm.I1, ixv (k := 2) ((rfl : (2 : Int32) = nI 2)) (by omega) (Nat.le_of_ble_eq_true rfl), ?_⟩
    rw [ixc (k := 2) ((rfl : (2 : Int32) = nI 2)) (by omega)]
    conv => whnf
    refine ⟨_, _, hm.M, rfl, ?_⟩
    rw [F1]
    conv => whnf
    rw [hr.num (i := 0) (by omega), hr.num (i := 1) (by omega), hr.num (i := 2) (by omega)]
    by_cases c3 : a.2.2.1 = 3
    · refine ⟨fun c_ => ?_, fun c_ => absurd (by rw [c3]; rfl) c_⟩
      conv => whnf
      refine hK _ _ _ _ _ _ (go hc 2 (fun K hK => ?_))
      conv => whnf
      by_cases c4 : a.2.1 0 < 0
      · refine ⟨fun c_ => ?_, fun c_ => absurd ((i0_lt q0).mpr c4) c_⟩
        conv => whnf
        refine hK _ _ _ _ _ _ (n75 (Or.inr (Or.inl c4)) _ hm)
      · refine ⟨fun c_ => absurd c_ (fun q => c4 ((i0_lt q0).mp q)), fun c_ => ?_⟩
        conv => whnf
        refine hK _ _ _ _ _ _ (go hc 2 (fun K hK => ?_))
        conv => whnf
        by_cases c5 : a.2.1 0 = 0
        · refine ⟨fun c_ => ?_, fun c_ => absurd ((i0_eq q0).mpr c5) c_⟩
          conv => whnf
          refine hK _ _ _ _ _ _ (go hc 2 (fun K hK => ?_))
          conv => whnf
          by_cases c6 : a.2.1 1 = 0
          · refine ⟨fun c_ => ?_, fun c_ => absurd ((i0_eq q1).mpr c6) c_⟩
            conv => whnf
            refine hK _ _ _ _ _ _ (go hc 2 (fun K hK => ?_))
            conv => whnf
            by_cases c7 : a.2.1 2 = 0
            · refine ⟨fun c_ => ?_, fun c_ => absurd ((i0_eq q2).mpr c7) c_⟩
              conv => whnf
              refine hK _ _ _ _ _ _ (n75 (Or.inr (Or.inr (Or.inl ⟨c5, c6, c7⟩))) _ hm)
            · refine ⟨fun c_ => absurd c_ (fun q => c7 ((i0_eq q2).mp q)), fun c_ => ?_⟩
              conv => whnf
              refine hK _ _ _ _ _ _ (n67 c3 c4 (fun q => c7 q.2.2) _ hm)
          · refine ⟨fun c_ => absurd c_ (fun q => c6 ((i0_eq q1).mp q)), fun c_ => ?_⟩
            conv => whnf
            refine hK _ _ _ _ _ _ (n67 c3 c4 (fun q => c6 q.2.1) _ hm)
        · refine ⟨fun c_ => absurd c_ (fun q => c5 ((i0_eq q0).mp q)), fun c_ => ?_⟩
          conv => whnf
          refine hK _ _ _ _ _ _ (n67 c3 c4 (fun q => c5 q.1) _ hm)
    · refine ⟨fun c_ => absurd c_ (fun q => c3 ((nI_eq (by omega) (by decide)).mp q)), fun c_ => ?_⟩
      conv => whnf
      refine hK _ _ _ _ _ _ (n75 (Or.inl c3) _ hm)
end EGEN
