/-! what the reference is asked -/
def rDim (a : RSt) (x : Int32) : RR := if slotB x = false then (1, 0, a) else (0, dimI (a.1 x.toNatClampNeg 4) (a.1 x.toNatClampNeg 0), a)
def rRows (a : RSt) (x k : Int32) : RR := if slotB x = false then (1, 0, a) else if kdB k = false then (2, 0, a) else (0, nI (a.1 x.toNatClampNeg k.toNatClampNeg).length, a)
def rRow (a : RSt) (x k i j : Int32) : RR :=
  if slotB x = false ∨ i < 0 ∨ j < 0 ∨ 2 < j then (1, 0, a) else if kdB k = false then (2, 0, a)
  else if i < nI (a.1 x.toNatClampNeg k.toNatClampNeg).length then (0, Int32.ofInt (cmp3 (gt (a.1 x.toNatClampNeg k.toNatClampNeg) i.toNatClampNeg) j.toNatClampNeg), a) else (1, 0, a)
def rGrt (a : RSt) (x : Int32) : RR := if a.2.2.2.1 = false then (1, 0, a) else if x ≠ 0 ∧ x ≠ 1 then (2, 0, a) else (0, Int32.ofInt (if x = 0 then a.2.2.2.2.1 else a.2.2.2.2.2), a)
def hoB (T : Tab) (i : Nat) (v : V3) : Bool := decide (T i 4 ≠ []) && ((T i 0).all (fun r => decide (dot r v = 0)) && (T i 1).all (fun r => decide (0 ≤ dot r v)))
def rHas (a : RSt) (x : Int32) : RR := if slotB x = false then (1, 0, a) else if a.2.2.1 ≠ 3 ∨ a.2.1 0 ≤ 0 then (2, 0, a) else (0, bI01 (hoB a.1 x.toNatClampNeg (num3 a)), s0 a)
def rInc (a : RSt) (x y : Int32) : RR := if slotB x = false ∨ slotB y = false then (1, 0, a) else (0, bI01 ((agL [] (gnL a.1 y.toNatClampNeg)).all (hoB a.1 x.toNatClampNeg)), a)
section EASK
variable {sc : Scr} {d : Nat} {m : MM} {D Z h : PH} {Q : Out → PH → Prop} {a : RSt} {G : List V3}
theorem kdB_nat {x : Int32} (h : kdB x = true) : ∃ k, k < 5 ∧ x = nI k ∧ x.toNatClampNeg = k := by
  rcases kd_cases x with q | ⟨k, hk, rfl, _⟩
  · rw [q] at h; cases h
  · exact ⟨k, hk, rfl, nI_clamp (by omega)⟩
theorem e_isKind {x : Int32} (hQ : Q (.inl (some (.int (bI01 (kdB x))))) h) : wpC sc (d + 1) 140 [.int x] h Q := by
  rcases kd_cases x with hx | ⟨k, hk, rfl, hx⟩
  · rw [hx] at hQ
    have n13 : ∀ {call : Callee}, call = wpC sc d → Runs d call sc m_X4_isKind (qth (mTh m_X4_isKind) Q) 13 [(0, .int x)] [] h 0 0 := by
      intro call hc
      refine go hc 1 (fun K hK => ?_)
      conv => whnf
      refine hK _ _ _ _ _ _ ?_
      refine go hc 1 (fun K hK => ?_)
      conv => whnf
      exact ⟨Or.inl rfl, hQ⟩
    have hx := of_decide_eq_false hx
    refine enter rfl rfl (fun call hc => go hc 2 (fun K hK => ?_))
    conv => whnf
    by_cases c1 : x < 0
    · refine ⟨fun c_ => ?_, fun c_ => absurd (c1) c_⟩
      conv => whnf
      refine hK _ _ _ _ _ _ (n13 hc)
    · refine ⟨fun c_ => absurd c_ (c1), fun c_ => ?_⟩
      conv => whnf
      refine hK _ _ _ _ _ _ (go hc 3 (fun K hK => ?_))
      conv => whnf
      have h5 : (5 : Int32) ≤ x := by
        have h4 : 4 < x := Classical.byContradiction fun q => hx ⟨c1, q⟩
        rw [Int32.lt_iff_toInt_lt] at h4
        rw [Int32.le_iff_toInt_le]
        have e5 : (5 : Int32).toInt = 5 := rfl
        have e4 : (4 : Int32).toInt = 4 := rfl
        omega
      refine ⟨fun c_ => ?_, fun c_ => absurd (h5) c_⟩
      conv => whnf
      refine hK _ _ _ _ _ _ (n13 hc)
  · rw [hx] at hQ
    refine enter rfl rfl (fun call hc => go hc 2 (fun K hK => ?_))
    conv => whnf
    refine ⟨fun c_ => absurd c_ (fun q => nI_nlt (a := k) (b := 0) (by omega) (by omega) q), fun c_ => ?_⟩
    conv => whnf
    refine hK _ _ _ _ _ _ (go hc 3 (fun K hK => ?_))
    conv => whnf
    refine ⟨fun c_ => absurd c_ (fun q => nI_ge (a := k) (b := 5) hk (by decide) q), fun c_ => ?_⟩
    conv => whnf
    refine hK _ _ _ _ _ _ (go hc 2 (fun K hK => ?_))
    conv => whnf
    refine hK _ _ _ _ _ _ ?_
    refine go hc 1 (fun K hK => ?_)
    conv => whnf
    exact ⟨Or.inr rfl, hQ⟩
theorem e_dimension (hm : MR m D Z h) (hr : RZ m a) {x : Int32} (hQ : ∀ m' h', MR m' D Z h' → RZ m' (rDim a x).2.2 → m' 12 0 = ((rDim a x).1 : Int) → Q (.inl (some (.int (rDim a x).2.1))) h') : wpC sc (d + 4) 139 [.ref 60, .int x] h Q := by
  unfold rDim at hQ
  refine enter rfl rfl (fun call hc => go hc 6 (fun K hK => ?_))
  conv => whnf
  refine ⟨_, hm.M, Nat.le_of_ble_eq_true rfl, ?_⟩
  replace hm := hm.code (v := 0) rfl
  replace hr := hr.code 0
  have z0 : mu m 12 0 0 12 0 = 0 := mu_at _ _ _ _
  generalize mu m 12 0 0 = m1 at *
  conv => whnf
  refine ⟨Nat.le_of_ble_eq_true rfl, ?_⟩
  conv => whnf
  refine callee hc (e_isSlot ?_)
  conv => whnf
  cases hx : slotB x with
  | false =>
    rw [if_pos hx] at hQ
    refine ⟨fun c_ => ?_, fun c_ => absurd (rfl) c_⟩
    conv => whnf
    refine hK _ _ _ _ _ _ ?_
    refine go hc 3 (fun K hK => ?_)
    conv => whnf
    refine ⟨_, hm.M, Nat.le_of_ble_eq_true rfl, ?_⟩
    conv => whnf
    refine callee hc (e_fail hm (n := 1) rfl ?_)
    intro m2 h2 hm c2 f2
    conv => whnf
    refine hK _ _ _ _ _ _ ?_
    refine go hc 1 (fun K hK => ?_)
    conv => whnf
    exact hQ m2 h2 hm (hr.fx f2 (by decide) (by decide) (by decide) (by decide) (by decide) (by decide) (by decide)) c2
  | true =>
    rw [if_neg (by rw [hx]; decide)] at hQ
    obtain ⟨i, hi, he, hn⟩ := slot_nat hx
    subst he
    rw [hn] at hQ
    refine ⟨fun c_ => absurd c_ (by decide), fun c_ => ?_⟩
    conv => whnf
    refine hK _ _ _ _ _ _ (go hc 4 (fun K hK => ?_))
    conv => whnf
    refine ⟨_, hm.M, Nat.le_of_ble_eq_true rfl, ?_⟩
    conv => whnf
    refine callee hc (e_dimOf hm rfl hi hr.1 ?_)
    conv => whnf
    refine hK _ _ _ _ _ _ ?_
    refine go hc 1 (fun K hK => ?_)
    conv => whnf
    exact hQ m1 _ hm hr z0
theorem e_rows (hm : MR m D Z h) (hr : RZ m a) {x k : Int32} (hQ : ∀ m' h', MR m' D Z h' → RZ m' (rRows a x k).2.2 → m' 12 0 = ((rRows a x k).1 : Int) → Q (.inl (some (.int (rRows a x k).2.1))) h') : wpC sc (d + 4) 141 [.ref 60, .int x, .int k] h Q := by
  unfold rRows at hQ
  refine enter rfl rfl (fun call hc => go hc 6 (fun K hK => ?_))
  conv => whnf
  refine ⟨_, hm.M, Nat.le_of_ble_eq_true rfl, ?_⟩
  replace hm := hm.code (v := 0) rfl
  replace hr := hr.code 0
  have z0 : mu m 12 0 0 12 0 = 0 := mu_at _ _ _ _
  generalize mu m 12 0 0 = m1 at *
  conv => whnf
  refine ⟨Nat.le_of_ble_eq_true rfl, ?_⟩
  conv => whnf
  refine callee hc (e_isSlot ?_)
  conv => whnf
  cases hx : slotB x with
  | false =>
    rw [if_pos hx] at hQ
    refine ⟨fun c_ => ?_, fun c_ => absurd (rfl) c_⟩
    conv => whnf
    refine hK _ _ _ _ _ _ (go hc 4 (fun K hK => ?_))
    conv => whnf
    refine ⟨_, hm.M, Nat.le_of_ble_eq_true rfl, ?_⟩
    conv => whnf
    refine callee hc (e_fail hm (n := 1) rfl ?_)
    intro m2 h2 hm c2 f2
    conv => whnf
    exact hQ m2 h2 hm (hr.fx f2 (by decide) (by decide) (by decide) (by decide) (by decide) (by decide) (by decide)) c2
  | true =>
    rw [if_neg (by rw [hx]; decide)] at hQ
    obtain ⟨i, hi, he, hn⟩ := slot_nat hx
    subst he
    rw [hn] at hQ
    refine ⟨fun c_ => absurd c_ (by decide), fun c_ => ?_⟩
    conv => whnf
    refine hK _ _ _ _ _ _ ?_
    refine go hc 3 (fun K hK => ?_)
    conv => whnf
    refine ⟨Nat.le_of_ble_eq_true rfl, ?_⟩
    conv => whnf
    refine callee hc (e_isKind ?_)
    conv => whnf
    cases hk : kdB k with
    | false =>
      rw [if_pos hk] at hQ
      refine ⟨fun c_ => ?_, fun c_ => absurd (rfl) c_⟩
      conv => whnf
      refine hK _ _ _ _ _ _ ?_
      refine go hc 3 (fun K hK => ?_)
      conv => whnf
      refine ⟨_, hm.M, Nat.le_of_ble_eq_true rfl, ?_⟩
      conv => whnf
      refine callee hc (e_fail hm (n := 2) rfl ?_)
      intro m2 h2 hm c2 f2
      conv => whnf
      refine hK _ _ _ _ _ _ ?_
      refine go hc 1 (fun K hK => ?_)
      conv => whnf
      exact hQ m2 h2 hm (hr.fx f2 (by decide) (by decide) (by decide) (by decide) (by decide) (by decide) (by decide)) c2
    | true =>
      rw [if_neg (by rw [hk]; decide)] at hQ
      obtain ⟨kn, hk5, he, hn'⟩ := kdB_nat hk
      subst he
      rw [hn'] at hQ
      refine ⟨fun c_ => absurd c_ (by decide), fun c_ => ?_⟩
      conv => whnf
      refine hK _ _ _ _ _ _ (go hc 5 (fun K hK => ?_))
      conv => whnf
      refine ⟨_, hm.M, Nat.le_of_ble_eq_true rfl, ?_⟩
      conv => whnf
      refine callee hc (e_count hm rfl rfl hi hk5 (hr.1 i kn hi hk5) ?_)
      conv => whnf
      refine hK _ _ _ _ _ _ ?_
      refine go hc 1 (fun K hK => ?_)
      conv => whnf
      exact hQ m1 _ hm hr z0
theorem e_row (hm : MR m D Z h) (hr : RZ m a) {x k i j : Int32} (hQ : ∀ m' h', MR m' D Z h' → RZ m' (rRow a x k i j).2.2 → m' 12 0 = ((rRow a x k i j).1 : Int) → Q (.inl (some (.int (rRow a x k i j).2.1))) h') : wpC sc (d + 4) 142 [.ref 60, .int x, .int k, .int i, .int j] h Q := by
  unfold rRow at hQ
  refine enter rfl rfl (fun call hc => go hc 6 (fun K hK => ?_))
  conv => whnf
  refine ⟨_, hm.M, Nat.le_of_ble_eq_true rfl, ?_⟩
  replace hm := hm.code (v := 0) rfl
  replace hr := hr.code 0
  have z0 : mu m 12 0 0 12 0 = 0 := mu_at _ _ _ _
  generalize mu m 12 0 0 = m1 at *
  conv => whnf
  refine ⟨Nat.le_of_ble_eq_true rfl, ?_⟩
  conv => whnf
  refine callee hc (e_isSlot ?_)
  conv => whnf
  have bad63 : (∀ m' h', MR m' D Z h' → RZ m' a → m' 12 0 = ((1 : Nat) : Int) → Q (.inl (some (.int 0))) h') → ∀ h1, MR m1 D Z h1 → Runs (d + 3) call sc m_X4_row (qth (mTh m_X4_row) Q) 63 [(0, .ref 60), (1, .int x), (2, .int k), (3, .int i), (4, .int j), (5, .int 0)] [] h1 0 0 := fun hq h1 hm => by
    refine go hc 2 (fun K hK => ?_)
    conv => whnf
    refine ⟨fun c_ => ?_, fun c_ => absurd (rfl) c_⟩
    conv => whnf
    refine hK _ _ _ _ _ _ (go hc 4 (fun K hK => ?_))
    conv => whnf
    refine ⟨_, hm.M, Nat.le_of_ble_eq_true rfl, ?_⟩
    conv => whnf
    refine callee hc (e_fail hm (n := 1) rfl ?_)
    intro m2 h2 hm c2 f2
    conv => whnf
    exact hq m2 h2 hm (hr.fx f2 (by decide) (by decide) (by decide) (by decide) (by decide) (by decide) (by decide)) c2
  have n31 : (slotB x = false ∨ i < 0 ∨ j < 0 ∨ 2 < j) → ∀ h1, MR m1 D Z h1 → Runs (d + 3) call sc m_X4_row (qth (mTh m_X4_row) Q) 31 [(0, .ref 60), (1, .int x), (2, .int k), (3, .int i), (4, .int j)] [] h1 0 0 := fun q h1 hm => by
    rw [if_pos q] at hQ
    refine go hc 1 (fun K hK => ?_)
    conv => whnf
    refine hK _ _ _ _ _ _ ?_
    refine go hc 3 (fun K hK => ?_)
    conv => whnf
    refine ⟨fun c_ => ?_, fun c_ => absurd (rfl) c_⟩
    conv => whnf
    refine hK _ _ _ _ _ _ (bad63 hQ h1 hm)
  cases hx : slotB x with
  | false =>
    refine ⟨fun c_ => ?_, fun c_ => absurd (rfl) c_⟩
    conv => whnf
    refine hK _ _ _ _ _ _ (n31 (Or.inl hx) _ hm)
  | true =>
    refine ⟨fun c_ => absurd c_ (by decide), fun c_ => ?_⟩
    conv => whnf
    refine hK _ _ _ _ _ _ (go hc 2 (fun K hK => ?_))
    conv => whnf
    by_cases c1 : i < 0
    · refine ⟨fun c_ => ?_, fun c_ => absurd (c1) c_⟩
      conv => whnf
      refine hK _ _ _ _ _ _ (n31 (Or.inr (Or.inl c1)) _ hm)
    · refine ⟨fun c_ => absurd c_ (c1), fun c_ => ?_⟩
      conv => whnf
      refine hK _ _ _ _ _ _ (go hc 2 (fun K hK => ?_))
      conv => whnf
      by_cases c2 : j < 0
      · refine ⟨fun c_ => ?_, fun c_ => absurd (c2) c_⟩
        conv => whnf
        refine hK _ _ _ _ _ _ (n31 (Or.inr (Or.inr (Or.inl c2))) _ hm)
      · refine ⟨fun c_ => absurd c_ (c2), fun c_ => ?_⟩
        conv => whnf
        refine hK _ _ _ _ _ _ (go hc 3 (fun K hK => ?_))
        conv => whnf
        by_cases c3 : 2 < j
        · refine ⟨fun c_ => ?_, fun c_ => absurd (c3) c_⟩
          conv => whnf
          refine hK _ _ _ _ _ _ (n31 (Or.inr (Or.inr (Or.inr c3))) _ hm)
        · rw [if_neg (by rw [hx]; rintro (q | q | q | q); cases q; exact c1 q; exact c2 q; exact c3 q)] at hQ
          obtain ⟨s, hs, he, hn⟩ := slot_nat hx
          subst he
          rw [hn] at hQ
          obtain ⟨nj, hj3, rfl⟩ : ∃ q : Nat, q < 3 ∧ j = nI q := by
            rcases pk_ix j (n := 3) (by decide) with q | q | q
            · exact absurd q c2
            · have q' : (3 : Int32) ≤ j := q
              refine absurd ?_ c3
              rw [Int32.le_iff_toInt_le] at q'
              rw [Int32.lt_iff_toInt_lt]
              have e5 : (3 : Int32).toInt = 3 := rfl
              have e4 : (2 : Int32).toInt = 2 := rfl
              omega
            · exact q
          refine ⟨fun c_ => absurd c_ (c3), fun c_ => ?_⟩
          conv => whnf
          refine hK _ _ _ _ _ _ (go hc 2 (fun K hK => ?_))
          conv => whnf
          refine hK _ _ _ _ _ _ ?_
          refine go hc 3 (fun K hK => ?_)
          conv => whnf
          refine ⟨fun c_ => absurd c_ (by decide), fun c_ => ?_⟩
          conv => whnf
          refine hK _ _ _ _ _ _ (go hc 3 (fun K hK => ?_))
          conv => whnf
          refine ⟨Nat.le_of_ble_eq_true rfl, ?_⟩
          conv => whnf
          refine callee hc (e_isKind ?_)
          conv => whnf
          cases hk : kdB k with
          | false =>
            rw [if_pos hk] at hQ
            refine ⟨fun c_ => ?_, fun c_ => absurd (rfl) c_⟩
            conv => whnf
            refine hK _ _ _ _ _ _ ?_
            refine go hc 2 (fun K hK => ?_)
            conv => whnf
            refine ⟨fun c_ => absurd c_ (by decide), fun c_ => ?_⟩
            conv => whnf
            refine hK _ _ _ _ _ _ (go hc 3 (fun K hK => ?_))
            conv => whnf
            refine ⟨Nat.le_of_ble_eq_true rfl, ?_⟩
            conv => whnf
            refine callee hc (e_isKind ?_)
            rw [hk]
            conv => whnf
            refine ⟨fun c_ => ?_, fun c_ => absurd (rfl) c_⟩
            conv => whnf
            refine hK _ _ _ _ _ _ ?_
            refine go hc 3 (fun K hK => ?_)
            conv => whnf
            refine ⟨_, hm.M, Nat.le_of_ble_eq_true rfl, ?_⟩
            conv => whnf
            refine callee hc (e_fail hm (n := 2) rfl ?_)
            intro m2 h2 hm c2 f2
            conv => whnf
            refine hK _ _ _ _ _ _ ?_
            refine go hc 1 (fun K hK => ?_)
            conv => whnf
            exact hQ m2 h2 hm (hr.fx f2 (by decide) (by decide) (by decide) (by decide) (by decide) (by decide) (by decide)) c2
          | true =>
            rw [if_neg (by rw [hk]; decide)] at hQ
            obtain ⟨kn, hk5, he, hn'⟩ := kdB_nat hk
            subst he
            rw [hn'] at hQ
            have ht := hr.1 s kn hs hk5
            have hl := ht.2.2
            refine ⟨fun c_ => absurd c_ (by decide), fun c_ => ?_⟩
            conv => whnf
            refine hK _ _ _ _ _ _ (go hc 6 (fun K hK => ?_))
            conv => whnf
            refine ⟨_, hm.M, Nat.le_of_ble_eq_true rfl, ?_⟩
            conv => whnf
            refine callee hc (e_count hm rfl rfl hs hk5 ht ?_)
            conv => whnf
            by_cases c4 : i < nI (a.1 s kn).length
            · rw [if_pos c4] at hQ
              obtain ⟨ni, hi, rfl⟩ : ∃ q : Nat, q < (a.1 s kn).length ∧ i = nI q := by
                rcases pk_ix i (n := (a.1 s kn).length) (by omega) with q | q | q
                · exact absurd q c1
                · exact absurd c4 (Int32.not_lt.mpr q)
                · exact q
              rw [nI_clamp (show ni < 2 ^ 31 by omega), nI_clamp (show nj < 2 ^ 31 by omega)] at hQ
              have hrow := ht.2.1 ni hi
              refine ⟨fun c_ => absurd c_ (nI_ge hi (by omega)), fun c_ => ?_⟩
              conv => whnf
              refine hK _ _ _ _ _ _ (go hc 3 (fun K hK => ?_))
              conv => whnf
              refine hK _ _ _ _ _ _ ?_
              refine go hc 2 (fun K hK => ?_)
              conv => whnf
              refine ⟨fun c_ => absurd c_ (by decide), fun c_ => ?_⟩
              conv => whnf
              refine hK _ _ _ _ _ _ (go hc 3 (fun K hK => ?_))
              conv => whnf
              refine ⟨Nat.le_of_ble_eq_true rfl, ?_⟩
              conv => whnf
              refine callee hc (e_isKind ?_)
              rw [hk]
              conv => whnf
              refine ⟨fun c_ => absurd c_ (by decide), fun c_ => ?_⟩
              conv => whnf
              refine hK _ _ _ _ _ _ (go hc 11 (fun K hK => ?_))
              conv => whnf
              refine ⟨_, _, hm.M, rfl, ?_⟩
              conv => whnf
              refine ⟨_, hm.M, Nat.le_of_ble_eq_true rfl, ?_⟩
              conv => whnf
              refine callee hc (e_at (s := s) (k := kn) (i := ni) rfl rfl rfl ?_)
              conv => whnf
              refine Or.inr ⟨_, _, hm.I3, ixv (k := (48 * (5 * s + kn) + 3 * ni) + (nj)) (ia ((rfl : nI (48 * (5 * s + kn) + 3 * ni) = nI (48 * (5 * s + kn) + 3 * ni))) ((rfl : nI (nj) = nI (nj)))) (by omega) (Nat.le_of_ble_eq_true rfl), ?_⟩
              rw [ixc (k := (48 * (5 * s + kn) + 3 * ni) + (nj)) (ia ((rfl : nI (48 * (5 * s + kn) + 3 * ni) = nI (48 * (5 * s + kn) + 3 * ni))) ((rfl : nI (nj) = nI (nj)))) (by omega)]
              conv => whnf
              refine hK _ _ _ _ _ _ ?_
              rw [show mI m1 3 (48 * (5 * s + kn) + 3 * ni + nj) = Int32.ofInt (cmp3 (gt (a.1 s kn) ni) nj) from by unfold mI; rw [vAt_cmp m1 3 _ nj hj3, hrow]]
              refine go hc 1 (fun K hK => ?_)
              conv => whnf
              exact hQ m1 _ hm hr z0
            · rw [if_neg c4] at hQ
              refine ⟨fun c_ => ?_, fun c_ => absurd (Int32.not_lt.mp c4) c_⟩
              conv => whnf
              refine hK _ _ _ _ _ _ (go hc 2 (fun K hK => ?_))
              conv => whnf
              refine hK _ _ _ _ _ _ (bad63 hQ _ hm)
theorem e_greatest (hm : MR m D Z h) (hr : RZ m a) {x : Int32} (hQ : ∀ m' h', MR m' D Z h' → RZ m' (rGrt a x).2.2 → m' 12 0 = ((rGrt a x).1 : Int) → Q (.inl (some (.int (rGrt a x).2.1))) h') : wpC sc (d + 2) 135 [.ref 60, .int x] h Q := by
  unfold rGrt at hQ
  have n48 : ∀ {call : Callee}, call = wpC sc (d + 1) → ∀ (v : Int) h1, Q (.inl (some (.int (Int32.ofInt v)))) h1 → Runs (d + 1) call sc m_X4_greatest (qth (mTh m_X4_greatest) Q) 48 [(0, .ref 60), (1, .int x)] [.long (Int64.ofInt v)] h1 0 0 := by
    intro call hc v h1 hq
    refine go hc 2 (fun K hK => ?_)
    conv => whnf
    rw [Int64.toInt32_ofInt]
    exact hq
  refine enter rfl rfl (fun call hc => go hc 6 (fun K hK => ?_))
  conv => whnf
  refine ⟨_, hm.M, Nat.le_of_ble_eq_true rfl, ?_⟩
  replace hm := hm.code (v := 0) rfl
  replace hr := hr.code 0
  have z0 : mu m 12 0 0 12 0 = 0 := mu_at _ _ _ _
  generalize mu m 12 0 0 = m1 at *
  conv => whnf
  refine ⟨_, _, hm.M, rfl, ?_⟩
  conv => whnf
  have e17 : mF m1 17 = bI01 a.2.2.2.1 := by
    unfold mF
    rw [hr.2.2.2.1]
    cases a.2.2.2.1 <;> rfl
  rw [e17]
  cases hb : a.2.2.2.1 with
  | false =>
    rw [if_pos hb] at hQ
    refine ⟨fun c_ => ?_, fun c_ => absurd (rfl) c_⟩
    conv => whnf
    refine hK _ _ _ _ _ _ (go hc 4 (fun K hK => ?_))
    conv => whnf
    refine ⟨_, hm.M, Nat.le_of_ble_eq_true rfl, ?_⟩
    conv => whnf
    refine callee hc (e_fail hm (n := 1) rfl ?_)
    intro m2 h2 hm c2 f2
    conv => whnf
    exact hQ m2 h2 hm (hr.fx f2 (by decide) (by decide) (by decide) (by decide) (by decide) (by decide) (by decide)) c2
  | true =>
    rw [if_neg (by rw [hb]; decide)] at hQ
    have e18 : mL m1 18 0 = Int64.ofInt a.2.2.2.2.1 := by unfold mL; rw [hr.2.2.2.2.1]
    have e19 : mL m1 19 0 = Int64.ofInt a.2.2.2.2.2 := by unfold mL; rw [hr.2.2.2.2.2]
    refine ⟨fun c_ => absurd c_ (by decide), fun c_ => ?_⟩
    conv => whnf
    refine hK _ _ _ _ _ _ ?_
    refine go hc 2 (fun K hK => ?_)
    conv => whnf
    by_cases c0 : x = 0
    · rw [if_neg (fun q => q.1 c0), if_pos c0] at hQ
      refine ⟨fun c_ => ?_, fun c_ => absurd (c0) c_⟩
      conv => whnf
      refine hK _ _ _ _ _ _ ?_
      refine go hc 2 (fun K hK => ?_)
      conv => whnf
      refine ⟨fun c_ => ?_, fun c_ => absurd (c0) c_⟩
      conv => whnf
      refine hK _ _ _ _ _ _ (go hc 3 (fun K hK => ?_))
      conv => whnf
      refine ⟨_, _, hm.M, rfl, ?_⟩
      conv => whnf
      rw [e18]
      refine hK _ _ _ _ _ _ (n48 hc _ _ (hQ m1 _ hm hr z0))
    · refine ⟨fun c_ => absurd c_ (c0), fun c_ => ?_⟩
      conv => whnf
      refine hK _ _ _ _ _ _ (go hc 3 (fun K hK => ?_))
      conv => whnf
      by_cases c1 : x = 1
      · rw [if_neg (fun q => q.2 c1), if_neg c0] at hQ
        refine ⟨fun c_ => ?_, fun c_ => absurd (c1) c_⟩
        conv => whnf
        refine hK _ _ _ _ _ _ ?_
        refine go hc 2 (fun K hK => ?_)
        conv => whnf
        refine ⟨fun c_ => absurd c_ (c0), fun c_ => ?_⟩
        conv => whnf
        refine hK _ _ _ _ _ _ (go hc 2 (fun K hK => ?_))
        conv => whnf
        refine ⟨_, _, hm.M, rfl, ?_⟩
        conv => whnf
        rw [e19]
        refine hK _ _ _ _ _ _ (n48 hc _ _ (hQ m1 _ hm hr z0))
      · rw [if_pos ⟨c0, c1⟩] at hQ
        refine ⟨fun c_ => absurd c_ (c1), fun c_ => ?_⟩
        conv => whnf
        refine hK _ _ _ _ _ _ (go hc 4 (fun K hK => ?_))
        conv => whnf
        refine ⟨_, hm.M, Nat.le_of_ble_eq_true rfl, ?_⟩
        conv => whnf
        refine callee hc (e_fail hm (n := 2) rfl ?_)
        intro m2 h2 hm c2 f2
        conv => whnf
        exact hQ m2 h2 hm (hr.fx f2 (by decide) (by decide) (by decide) (by decide) (by decide) (by decide) (by decide)) c2
end EASK
