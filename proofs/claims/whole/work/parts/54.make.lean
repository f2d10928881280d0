/-! what is being made -/
def MK (m : MM) (k : Nat) (l : List V3) : Prop := m 10 k = (l.length : Int) ∧ RW m 11 (1800 * k) l ∧ l.length ≤ 600
def Mk (m : MM) (M : Nat → List V3) : Prop := ∀ k, k < 5 → MK m k (M k)
theorem MK.eq {m m' : MM} {k : Nat} {l : List V3} (h : MK m k l) (h1 : m' 10 = m 10) (h2 : m' 11 = m 11) : MK m' k l := ⟨by rw [h1]; exact h.1, h.2.1.eq h2, h.2.2⟩
theorem Mk.fx {m m' : MM} {M : Nat → List V3} {fr : List Nat} (h : Mk m M) (hf : Fx fr m m') (h2 : 10 ∉ fr) (h3 : 11 ∉ fr) : Mk m' M := fun k hk => (h k hk).eq (hf 10 h2) (hf 11 h3)
theorem kp_mem {F : List V3} {c f : V3} (h : f ∈ kp F c) : f ∈ F ∨ f = c := by
  unfold kp at h
  split at h
  · exact Or.inl h
  · rcases List.mem_append.mp h with h | h
    · exact Or.inl h
    · exact Or.inr (List.mem_singleton.mp h)
section EMAKE
variable {sc : Scr} {d : Nat} {m : MM} {D Z h : PH} {Q : Out → PH → Prop} {l : List V3} {M : Nat → List V3}
theorem mk_loop {call : Callee} (hc : call = wpC sc (d + 2)) (hm : MR m D Z h) {k : Nat} (hk : k < 5) (hM : MK m k l) (hin : ∀ f ∈ l, inV f) (hcv : inV (vAt m 7 0)) (hend : vAt m 7 0 ∉ l → Runs (d + 2) call sc m_X4_make Q 86 [(0, .ref 60), (1, .int (nI k))] [] h 0 0) (hQ : vAt m 7 0 ∈ l → Q (.inl none) h) :
    ∀ (n i : Nat), i + n = l.length → (∀ k, k < i → gt l k ≠ vAt m 7 0) → Runs (d + 2) call sc m_X4_make Q 10 [(0, .ref 60), (1, .int (nI k)), (2, .int (nI i))] [] h 0 0 := by
  have hl := hM.2.2
  have hmk : mI m 10 k = nI l.length := by unfold mI; rw [hM.1]; rfl
  intro n
  induction n with
  | zero =>
    intro i hi hno
    have hn : vAt m 7 0 ∉ l := fun q => by
      obtain ⟨k, hk, he⟩ := List.getElem_of_mem q
      exact hno k (by omega) (gt_of (List.getElem?_eq_some_iff.mpr ⟨hk, he⟩))
    refine go hc 6 (fun K hK => ?_)
    conv => whnf
    refine ⟨_, _, hm.M, rfl, ?_⟩
    conv => whnf
    refine Or.inr ⟨_, _, hm.I10, ixv (k := k) ((rfl : nI (k) = nI (k))) (by omega) (Nat.le_of_ble_eq_true rfl), ?_⟩
    rw [ixc (k := k) ((rfl : nI (k) = nI (k))) (by omega)]
    conv => whnf
    refine ⟨fun c_ => ?_, fun c_ => absurd (by rw [hmk]; exact nI_le (by omega) (by omega)) c_⟩
    conv => whnf
    try simp only [nI_1]
    refine hK _ _ _ _ _ _ (Runs.less hc [0, 1] rfl rfl rfl rfl (hend hn))
  | succ n ih =>
    intro i hi hno
    have hil : i < l.length := by omega
    obtain ⟨e1, e2, e3⟩ := hM.2.1.at hil
    have hg := hin _ (gt_mem hil)
    have next : gt l i ≠ vAt m 7 0 → Runs (d + 2) call sc m_X4_make Q 80 [(0, .ref 60), (1, .int (nI k)), (2, .int (nI i))] [] h 0 0 := fun q => by
      have hno' : ∀ k, k < i + 1 → gt l k ≠ vAt m 7 0 := fun k hk => by
        by_cases c : k = i
        · rw [c]; exact q
        · exact hno k (by omega)
      refine go hc 2 (fun K hK => ?_)
      conv => whnf
      try simp only [nI_1]
      refine hK _ _ _ _ _ _ (Runs.less hc [0, 1, 2] rfl rfl rfl rfl (ih (i + 1) (by omega) hno'))
    refine go hc 6 (fun K hK => ?_)
    conv => whnf
    refine ⟨_, _, hm.M, rfl, ?_⟩
    conv => whnf
    refine Or.inr ⟨_, _, hm.I10, ixv (k := k) ((rfl : nI (k) = nI (k))) (by omega) (Nat.le_of_ble_eq_true rfl), ?_⟩
    rw [ixc (k := k) ((rfl : nI (k) = nI (k))) (by omega)]
    conv => whnf
    refine ⟨fun c_ => absurd c_ (by rw [hmk]; exact nI_ge (by omega) (by omega)), fun c_ => ?_⟩
    conv => whnf
    refine hK _ _ _ _ _ _ (go hc 15 (fun K hK => ?_))
    conv => whnf
    refine ⟨_, hm.M, Nat.le_of_ble_eq_true rfl, ?_⟩
    conv => whnf
    refine callee hc (e_place (k := k) (i := i) rfl rfl ?_)
    conv => whnf
    refine ⟨_, _, hm.M, rfl, ?_⟩
    conv => whnf
    refine ⟨_, _, hm.L11, ixv (k := 1800 * k + 3 * i) ((rfl : nI (1800 * k + 3 * i) = nI (1800 * k + 3 * i))) (by omega) (Nat.le_of_ble_eq_true rfl), ?_⟩
    rw [ixc (k := 1800 * k + 3 * i) ((rfl : nI (1800 * k + 3 * i) = nI (1800 * k + 3 * i))) (by omega)]
    conv => whnf
    refine ⟨_, _, hm.M, rfl, ?_⟩
    conv => whnf
    refine ⟨_, _, hm.L7, ixv (k := 0) ((rfl : (0 : Int32) = nI 0)) (by omega) (Nat.le_of_ble_eq_true rfl), ?_⟩
    rw [ixc (k := 0) ((rfl : (0 : Int32) = nI 0)) (by omega)]
    conv => whnf
    by_cases c1 : (gt l i).1 = (vAt m 7 0).1
    · refine ⟨fun c_ => ?_, fun c_ => absurd (by unfold mL; rw [e1]; exact (kEq hg.1 hcv.1).mpr c1) c_⟩
      conv => whnf
      refine hK _ _ _ _ _ _ (go hc 12 (fun K hK => ?_))
      conv => whnf
      refine ⟨_, _, hm.M, rfl, ?_⟩
      conv => whnf
      refine ⟨_, _, hm.L11, ixv (k := (1800 * k + 3 * i) + (1)) (ia ((rfl : nI (1800 * k + 3 * i) = nI (1800 * k + 3 * i))) ((rfl : (1 : Int32) = nI 1))) (by omega) (Nat.le_of_ble_eq_true rfl), ?_⟩
      rw [ixc (k := (1800 * k + 3 * i) + (1)) (ia ((rfl : nI (1800 * k + 3 * i) = nI (1800 * k + 3 * i))) ((rfl : (1 : Int32) = nI 1))) (by omega)]
      conv => whnf
      refine ⟨_, _, hm.M, rfl, ?_⟩
      conv => whnf
      refine ⟨_, _, hm.L7, ixv (k := 1) ((rfl : (1 : Int32) = nI 1)) (by omega) (Nat.le_of_ble_eq_true rfl), ?_⟩
      rw [ixc (k := 1) ((rfl : (1 : Int32) = nI 1)) (by omega)]
      conv => whnf
      by_cases c2 : (gt l i).2.1 = (vAt m 7 0).2.1
      · refine ⟨fun c_ => ?_, fun c_ => absurd (by unfold mL; rw [e2]; exact (kEq hg.2.1 hcv.2.1).mpr c2) c_⟩
        conv => whnf
        refine hK _ _ _ _ _ _ (go hc 12 (fun K hK => ?_))
        conv => whnf
        refine ⟨_, _, hm.M, rfl, ?_⟩
        conv => whnf
        refine ⟨_, _, hm.L11, ixv (k := (1800 * k + 3 * i) + (2)) (ia ((rfl : nI (1800 * k + 3 * i) = nI (1800 * k + 3 * i))) ((rfl : (2 : Int32) = nI 2))) (by omega) (Nat.le_of_ble_eq_true rfl), ?_⟩
        rw [ixc (k := (1800 * k + 3 * i) + (2)) (ia ((rfl : nI (1800 * k + 3 * i) = nI (1800 * k + 3 * i))) ((rfl : (2 : Int32) = nI 2))) (by omega)]
        conv => whnf
        refine ⟨_, _, hm.M, rfl, ?_⟩
        conv => whnf
        refine ⟨_, _, hm.L7, ixv (k := 2) ((rfl : (2 : Int32) = nI 2)) (by omega) (Nat.le_of_ble_eq_true rfl), ?_⟩
        rw [ixc (k := 2) ((rfl : (2 : Int32) = nI 2)) (by omega)]
        conv => whnf
        by_cases c3 : (gt l i).2.2 = (vAt m 7 0).2.2
        · refine ⟨fun c_ => ?_, fun c_ => absurd (by unfold mL; rw [e3]; exact (kEq hg.2.2 hcv.2.2).mpr c3) c_⟩
          conv => whnf
          refine hK _ _ _ _ _ _ (go hc 1 (fun K hK => ?_))
          conv => whnf
          exact hQ (by rw [← show gt l i = vAt m 7 0 from Prod.ext c1 (Prod.ext c2 c3)]; exact gt_mem hil)
        · refine ⟨fun c_ => absurd c_ (by unfold mL; rw [e3]; exact fun q => c3 ((kEq hg.2.2 hcv.2.2).mp q)), fun c_ => ?_⟩
          conv => whnf
          try simp only [nI_1]
          refine hK _ _ _ _ _ _ (Runs.less hc [0, 1, 2] rfl rfl rfl rfl (next fun q => c3 (by rw [q])))
      · refine ⟨fun c_ => absurd c_ (by unfold mL; rw [e2]; exact fun q => c2 ((kEq hg.2.1 hcv.2.1).mp q)), fun c_ => ?_⟩
        conv => whnf
        try simp only [nI_1]
        refine hK _ _ _ _ _ _ (Runs.less hc [0, 1, 2] rfl rfl rfl rfl (next fun q => c2 (by rw [q])))
    · refine ⟨fun c_ => absurd c_ (by unfold mL; rw [e1]; exact fun q => c1 ((kEq hg.1 hcv.1).mp q)), fun c_ => ?_⟩
      conv => whnf
      try simp only [nI_1]
      refine hK _ _ _ _ _ _ (Runs.less hc [0, 1, 2] rfl rfl rfl rfl (next fun q => c1 (by rw [q])))
theorem e_make (hm : MR m D Z h) {k : Nat} {X : Int32} (hX : X = nI k) (hk : k < 5) (hM : Mk m M) (hl : (M k).length < 600) (hin : ∀ f ∈ M k, inV f) (hcv : inV (vAt m 7 0))
    (hQ : ∀ m' h', MR m' D Z h' → Mk m' (va_up M k (kp (M k) (prm (vAt m 7 0)))) → vAt m' 7 0 = prm (vAt m 7 0) → Fx [7, 10, 11] m m' → Q (.inl none) h') : wpC sc (d + 3) 102 [.ref 60, .int X] h Q := by
  subst hX
  refine enter rfl rfl (fun call hc => go hc 6 (fun K hK => ?_))
  conv => whnf
  refine ⟨_, _, hm.M, rfl, ?_⟩
  conv => whnf
  refine ⟨Nat.le_of_ble_eq_true rfl, ?_⟩
  conv => whnf
  refine callee hc (e_lessen hm hcv ?_)
  intro m1 h1 hm v1 f1
  conv => whnf
  have hM1 := hM.fx f1 (by decide) (by decide)
  have hMk := hM1 k hk
  have hmk : mI m1 10 k = nI (M k).length := by unfold mI; rw [hMk.1]; rfl
  rw [← v1] at hQ
  try simp only [nI_1]
  refine hK _ _ _ _ _ _ (Runs.less hc [0, 1, 2] rfl rfl rfl rfl (mk_loop (Q := qth _ Q) hc hm hk hMk hin (by rw [v1]; exact prm_inV hcv) ?_ ?_ (M k).length 0 (by omega) (fun k hk => by omega)))
  · intro hno
    unfold kp at hQ
    rw [if_neg hno] at hQ
    refine go hc 13 (fun K hK => ?_)
    conv => whnf
    refine ⟨_, _, hm.M, rfl, ?_⟩
    conv => whnf
    refine Or.inr ⟨_, _, hm.I10, ixv (k := k) ((rfl : nI (k) = nI (k))) (by omega) (Nat.le_of_ble_eq_true rfl), ?_⟩
    rw [ixc (k := k) ((rfl : nI (k) = nI (k))) (by omega)]
    conv => whnf
    refine ⟨_, hm.M, Nat.le_of_ble_eq_true rfl, ?_⟩
    conv => whnf
    refine callee hc (e_place (k := k) (i := (M k).length) rfl hmk ?_)
    conv => whnf
    refine ⟨fun c_ => absurd c_ (by decide), fun c_ => ?_⟩
    conv => whnf
    refine hK _ _ _ _ _ _ (go hc 15 (fun K hK => ?_))
    conv => whnf
    refine ⟨_, _, hm.M, rfl, ?_⟩
    conv => whnf
    refine ⟨_, _, hm.M, rfl, ?_⟩
    conv => whnf
    refine ⟨_, _, hm.L7, ixv (k := 0) ((rfl : (0 : Int32) = nI 0)) (by omega) (Nat.le_of_ble_eq_true rfl), ?_⟩
    rw [ixc (k := 0) ((rfl : (0 : Int32) = nI 0)) (by omega)]
    conv => whnf
    refine ⟨_, _, hm.L11, ixv (k := (1800 * k + 3 * (M k).length) + (0)) (ia ((rfl : nI (1800 * k + 3 * (M k).length) = nI (1800 * k + 3 * (M k).length))) ((rfl : (0 : Int32) = nI 0))) (by omega) (Nat.le_of_ble_eq_true rfl), ?_⟩
    rw [ixc (k := (1800 * k + 3 * (M k).length) + (0)) (ia ((rfl : nI (1800 * k + 3 * (M k).length) = nI (1800 * k + 3 * (M k).length))) ((rfl : (0 : Int32) = nI 0))) (by omega)]
    replace hm := hm.sL (a := 11) (i := (1800 * k + 3 * (M k).length) + (0)) (by decide) ((rfl : mL m1 7 0 = Int64.ofInt (m1 7 0)))
    conv => whnf
    refine ⟨fun c_ => absurd c_ (by decide), fun c_ => ?_⟩
    conv => whnf
    refine hK _ _ _ _ _ _ (go hc 15 (fun K hK => ?_))
    conv => whnf
    refine ⟨_, _, hm.M, rfl, ?_⟩
    conv => whnf
    refine ⟨_, _, hm.M, rfl, ?_⟩
    conv => whnf
    refine ⟨_, _, hm.L7, ixv (k := 0 + 1) (ia ((rfl : (0 : Int32) = nI 0)) (rfl : (1 : Int32) = nI 1)) (by omega) (Nat.le_of_ble_eq_true rfl), ?_⟩
    rw [ixc (k := 0 + 1) (ia ((rfl : (0 : Int32) = nI 0)) (rfl : (1 : Int32) = nI 1)) (by omega)]
    conv => whnf
    refine ⟨_, _, hm.L11, ixv (k := (1800 * k + 3 * (M k).length) + (0 + 1)) (ia ((rfl : nI (1800 * k + 3 * (M k).length) = nI (1800 * k + 3 * (M k).length))) (ia ((rfl : (0 : Int32) = nI 0)) (rfl : (1 : Int32) = nI 1))) (by omega) (Nat.le_of_ble_eq_true rfl), ?_⟩
    rw [ixc (k := (1800 * k + 3 * (M k).length) + (0 + 1)) (ia ((rfl : nI (1800 * k + 3 * (M k).length) = nI (1800 * k + 3 * (M k).length))) (ia ((rfl : (0 : Int32) = nI 0)) (rfl : (1 : Int32) = nI 1))) (by omega)]
    replace hm := hm.sL (a := 11) (i := (1800 * k + 3 * (M k).length) + (0 + 1)) (by decide) ((rfl : mL m1 7 1 = Int64.ofInt (m1 7 1)))
    conv => whnf
    refine ⟨fun c_ => absurd c_ (by decide), fun c_ => ?_⟩
    conv => whnf
    refine hK _ _ _ _ _ _ (go hc 15 (fun K hK => ?_))
    conv => whnf
    refine ⟨_, _, hm.M, rfl, ?_⟩
    conv => whnf
    refine ⟨_, _, hm.M, rfl, ?_⟩
    conv => whnf
    refine ⟨_, _, hm.L7, ixv (k := 0 + 1 + 1) (ia (ia ((rfl : (0 : Int32) = nI 0)) (rfl : (1 : Int32) = nI 1)) (rfl : (1 : Int32) = nI 1)) (by omega) (Nat.le_of_ble_eq_true rfl), ?_⟩
    rw [ixc (k := 0 + 1 + 1) (ia (ia ((rfl : (0 : Int32) = nI 0)) (rfl : (1 : Int32) = nI 1)) (rfl : (1 : Int32) = nI 1)) (by omega)]
    conv => whnf
    refine ⟨_, _, hm.L11, ixv (k := (1800 * k + 3 * (M k).length) + (0 + 1 + 1)) (ia ((rfl : nI (1800 * k + 3 * (M k).length) = nI (1800 * k + 3 * (M k).length))) (ia (ia ((rfl : (0 : Int32) = nI 0)) (rfl : (1 : Int32) = nI 1)) (rfl : (1 : Int32) = nI 1))) (by omega) (Nat.le_of_ble_eq_true rfl), ?_⟩
    rw [ixc (k := (1800 * k + 3 * (M k).length) + (0 + 1 + 1)) (ia ((rfl : nI (1800 * k + 3 * (M k).length) = nI (1800 * k + 3 * (M k).length))) (ia (ia ((rfl : (0 : Int32) = nI 0)) (rfl : (1 : Int32) = nI 1)) (rfl : (1 : Int32) = nI 1))) (by omega)]
    replace hm := hm.sL (a := 11) (i := (1800 * k + 3 * (M k).length) + (0 + 1 + 1)) (by decide) ((rfl : mL m1 7 2 = Int64.ofInt (m1 7 2)))
    conv => whnf
    refine ⟨fun c_ => ?_, fun c_ => absurd (by decide) c_⟩
    conv => whnf
    refine hK _ _ _ _ _ _ (go hc 9 (fun K hK => ?_))
    conv => whnf
    refine ⟨_, _, hm.M, rfl, ?_⟩
    conv => whnf
    refine Or.inr ⟨_, _, hm.I10, ixv (k := k) ((rfl : nI (k) = nI (k))) (by omega) (Nat.le_of_ble_eq_true rfl), ?_⟩
    rw [ixc (k := k) ((rfl : nI (k) = nI (k))) (by omega)]
    conv => whnf
    refine ⟨_, _, hm.I10, ixv (k := k) ((rfl : nI (k) = nI (k))) (by omega) (Nat.le_of_ble_eq_true rfl), ?_⟩
    rw [ixc (k := k) ((rfl : nI (k) = nI (k))) (by omega)]
    replace hm := hm.sI (a := 10) (i := k) (by decide) ((show mI m1 10 k + 1 = Int32.ofInt ((M k).length + 1 : Nat) by rw [hmk, nI_1]; rfl))
    conv => whnf
    obtain ⟨m2, hg1⟩ : ∃ x, x = mu m1 11 (1800 * k + 3 * (M k).length + 0) (m1 7 0) := ⟨_, rfl⟩
    obtain ⟨m3, hg2⟩ : ∃ x, x = mu m2 11 (1800 * k + 3 * (M k).length + (0 + 1)) (m1 7 1) := ⟨_, rfl⟩
    obtain ⟨m4, hg3⟩ : ∃ x, x = mu m3 11 (1800 * k + 3 * (M k).length + (0 + 1 + 1)) (m1 7 2) := ⟨_, rfl⟩
    have o4 : ∀ j, j < 1800 * k + 3 * (M k).length ∨ 1800 * k + 3 * (M k).length + 2 < j → m4 11 j = m1 11 j := fun j hj => by
      rw [hg3, mu_at_ne _ _ _ (by omega), hg2, mu_at_ne _ _ _ (by omega), hg1, mu_at_ne _ _ _ (by omega)]
    have v4 : vAt m4 11 (1800 * k + 3 * (M k).length) = vAt m1 7 0 := by
      unfold vAt
      rw [hg3, mu_at, mu_at_ne _ _ _ (by omega), mu_at_ne _ _ _ (by omega), hg2, mu_at, mu_at_ne _ _ _ (by omega), hg1, Nat.add_zero, mu_at]
    have f4 : Fx [7, 10, 11] m m4 := by
      rw [hg3, hg2, hg1]
      exact (((f1.mono (by decide)).mu (by decide)).mu (by decide)).mu (by decide)
    have f14 : Fx [11] m1 m4 := by
      rw [hg3, hg2, hg1]
      exact ((Fx.refl.mu (by decide)).mu (by decide)).mu (by decide)
    have hfin : ∀ h', MR (mu m4 10 k ((M k).length + 1 : Nat)) D Z h' → Q (.inl none) h' := fun h' hm => by
      refine hQ _ _ hm (fun j hj => ?_) ?_ (f4.mu (by decide))
      · by_cases c : j = k
        · subst c
          rw [va_up_self]
          refine ⟨?_, ?_, ?_⟩
          · rw [mu_at, List.length_append]; rfl
          · have : RW m4 11 (1800 * j) (M j ++ [vAt m1 7 0]) := RW.push hMk.2.1 (fun i hi => o4 i (Or.inl hi)) v4
            exact this
          · rw [List.length_append, List.length_singleton]; omega
        · rw [va_up_ne _ _ c]
          have hj1 := hM1 j hj
          have hjl := hj1.2.2
          refine ⟨?_, fun i hi => ?_, hjl⟩
          · rw [mu_at_ne _ _ _ c, f14 10 (by decide)]; exact hj1.1
          · rw [← hj1.2.1 i hi]
            show vAt m4 11 (1800 * j + 3 * i) = vAt m1 11 (1800 * j + 3 * i)
            have hne : 1800 * j + 3 * i + 2 < 1800 * k + 3 * (M k).length ∨ 1800 * k + 3 * (M k).length + 2 < 1800 * j + 3 * i := by
              have hkl := hMk.2.2
              omega
            unfold vAt
            rw [o4 _ (by omega), o4 _ (by omega), o4 _ (by omega)]
      · have : vAt m4 7 0 = vAt m1 7 0 := vAt_eq (f14 7 (by decide))
        exact this
    subst hg3; subst hg2; subst hg1
    exact hfin _ hm
  · intro hyes
    unfold kp at hQ
    rw [if_pos hyes] at hQ
    have e : va_up M k (M k) = M := by
      funext j
      by_cases c : j = k
      · rw [c, va_up_self]
      · rw [va_up_ne _ _ c]
    rw [e] at hQ
    exact hQ m1 h1 hm hM1 rfl (f1.mono (by decide))
def pvt (v : V3) : Nat := if v.2.1 = 0 then 2 else 1
/-- c is brought to 0 at the pivot of u -/
def cleV (u c : V3) : V3 := prm (lin (cmp3 u (pvt u)) (-(cmp3 c (pvt u))) c u)
theorem e_pivot (hm : MR m D Z h) {p : Nat} {X : Int32} (hX : X = nI p) (hp : p + 2 < 9000) {u : V3} (hu : vAt m 11 p = u) (hui : inV u) (hQ : Q (.inl (some (.int (nI (pvt u))))) h) : wpC sc (d + 1) 103 [.ref 60, .int X] h Q := by
  subst hX; subst hu
  unfold pvt at hQ
  refine enter rfl rfl (fun call hc => go hc 9 (fun K hK => ?_))
  conv => whnf
  refine ⟨_, _, hm.M, rfl, ?_⟩
  conv => whnf
  refine ⟨_, _, hm.L11, ixv (k := (p) + (1)) (ia ((rfl : nI (p) = nI (p))) ((rfl : (1 : Int32) = nI 1))) (by omega) (Nat.le_of_ble_eq_true rfl), ?_⟩
  rw [ixc (k := (p) + (1)) (ia ((rfl : nI (p) = nI (p))) ((rfl : (1 : Int32) = nI 1))) (by omega)]
  conv => whnf
  by_cases c : (vAt m 11 p).2.1 = 0
  · rw [if_pos c] at hQ
    refine ⟨fun c_ => ?_, fun c_ => absurd ((kEq0 hui.2.1).mpr c) c_⟩
    conv => whnf
    refine hK _ _ _ _ _ _ (go hc 2 (fun K hK => ?_))
    conv => whnf
    exact hQ
  · rw [if_neg c] at hQ
    refine ⟨fun c_ => absurd c_ (fun q => c ((kEq0 hui.2.1).mp q)), fun c_ => ?_⟩
    conv => whnf
    refine hK _ _ _ _ _ _ (go hc 3 (fun K hK => ?_))
    conv => whnf
    exact hQ
theorem pvt_lt (v : V3) : pvt v < 3 ∧ 0 < pvt v := by unfold pvt; split <;> omega
theorem vAt_cmp (m : MM) (a p : Nat) : ∀ k, k < 3 → m a (p + k) = cmp3 (vAt m a p) k
  | 0, _ => rfl
  | 1, _ => rfl
  | 2, _ => rfl
theorem oIcr2 (a b c e : Int) : Int64.ofInt a * Int64.ofInt b - Int64.ofInt c * Int64.ofInt e = Int64.ofInt (b * a + -e * c) := by
  rw [oIcr]
  congr 1
  grind
theorem e_clear (hm : MR m D Z h) {p : Nat} {X : Int32} (hX : X = nI p) (hp : p + 2 < 9000) {u c : V3} (hu : vAt m 11 p = u) (hui : inV u) (hcv : vAt m 7 0 = c) (hv : inV (lin (cmp3 u (pvt u)) (-(cmp3 c (pvt u))) c u))
    (hQ : ∀ m' h', MR m' D Z h' → vAt m' 7 0 = cleV u c → Fx [7] m m' → Q (.inl none) h') : wpC sc (d + 3) 104 [.ref 60, .int X] h Q := by
  subst hX
  obtain ⟨hpv, hpv0⟩ := pvt_lt u
  unfold cleV at hQ
  refine enter rfl rfl (fun call hc => go hc 21 (fun K hK => ?_))
  conv => whnf
  refine ⟨_, hm.M, Nat.le_of_ble_eq_true rfl, ?_⟩
  conv => whnf
  refine callee hc (e_pivot hm rfl hp hu hui ?_)
  conv => whnf
  refine ⟨_, _, hm.M, rfl, ?_⟩
  conv => whnf
  refine ⟨_, _, hm.L11, ixv (k := (p) + (pvt u)) (ia ((rfl : nI (p) = nI (p))) ((rfl : nI (pvt u) = nI (pvt u)))) (by omega) (Nat.le_of_ble_eq_true rfl), ?_⟩
  rw [ixc (k := (p) + (pvt u)) (ia ((rfl : nI (p) = nI (p))) ((rfl : nI (pvt u) = nI (pvt u)))) (by omega)]
  conv => whnf
  refine ⟨_, _, hm.M, rfl, ?_⟩
  conv => whnf
  refine ⟨_, _, hm.L7, ixv (k := pvt u) ((rfl : nI (pvt u) = nI (pvt u))) (by omega) (Nat.le_of_ble_eq_true rfl), ?_⟩
  rw [ixc (k := pvt u) ((rfl : nI (pvt u) = nI (pvt u))) (by omega)]
  conv => whnf
  have ea : mL m 11 (p + pvt u) = Int64.ofInt (cmp3 u (pvt u)) := by unfold mL; rw [vAt_cmp m 11 p _ hpv, hu]
  have eb : mL m 7 (pvt u) = Int64.ofInt (cmp3 c (pvt u)) := by
    unfold mL
    have := vAt_cmp m 7 0 _ hpv
    rw [Nat.zero_add] at this
    rw [this, hcv]
  rw [ea, eb]
  generalize hpa : cmp3 u (pvt u) = pa at *
  generalize hpb : cmp3 c (pvt u) = pb at *
  have c0 : m 7 0 = c.1 := congrArg Prod.fst hcv
  have c1 : m 7 1 = c.2.1 := congrArg (fun v : V3 => v.2.1) hcv
  have c2 : m 7 2 = c.2.2 := congrArg (fun v : V3 => v.2.2) hcv
  have u0 : m 11 (p + 0) = u.1 := congrArg Prod.fst hu
  have u1 : m 11 (p + (0 + 1)) = u.2.1 := congrArg (fun v : V3 => v.2.1) hu
  have u2 : m 11 (p + (0 + 1 + 1)) = u.2.2 := congrArg (fun v : V3 => v.2.2) hu
  refine ⟨fun c_ => absurd c_ (by decide), fun c_ => ?_⟩
  conv => whnf
  refine hK _ _ _ _ _ _ (go hc 24 (fun K hK => ?_))
  conv => whnf
  refine ⟨_, _, hm.M, rfl, ?_⟩
  conv => whnf
  refine ⟨_, _, hm.M, rfl, ?_⟩
  conv => whnf
  refine ⟨_, _, hm.L7, ixv (k := 0) ((rfl : (0 : Int32) = nI 0)) (by omega) (Nat.le_of_ble_eq_true rfl), ?_⟩
  rw [ixc (k := 0) ((rfl : (0 : Int32) = nI 0)) (by omega)]
  conv => whnf
  refine ⟨_, _, hm.M, rfl, ?_⟩
  conv => whnf
  refine ⟨_, _, hm.L11, ixv (k := (p) + (0)) (ia ((rfl : nI (p) = nI (p))) ((rfl : (0 : Int32) = nI 0))) (by omega) (Nat.le_of_ble_eq_true rfl), ?_⟩
  rw [ixc (k := (p) + (0)) (ia ((rfl : nI (p) = nI (p))) ((rfl : (0 : Int32) = nI 0))) (by omega)]
  conv => whnf
  refine ⟨_, _, hm.L7, ixv (k := 0) ((rfl : (0 : Int32) = nI 0)) (by omega) (Nat.le_of_ble_eq_true rfl), ?_⟩
  rw [ixc (k := 0) ((rfl : (0 : Int32) = nI 0)) (by omega)]
  replace hm := hm.sL (a := 7) (i := 0) (by decide) ((show mL m 7 0 * Int64.ofInt pa - mL m 11 (p + 0) * Int64.ofInt pb = Int64.ofInt (pa * c.1 + -pb * u.1) by unfold mL; rw [c0, u0]; exact oIcr2 _ _ _ _))
  generalize hg1 : mu m 7 0 _ = m1 at hm
  conv => whnf
  refine ⟨fun c_ => absurd c_ (by decide), fun c_ => ?_⟩
  conv => whnf
  refine hK _ _ _ _ _ _ (go hc 24 (fun K hK => ?_))
  conv => whnf
  refine ⟨_, _, hm.M, rfl, ?_⟩
  conv => whnf
  refine ⟨_, _, hm.M, rfl, ?_⟩
  conv => whnf
  refine ⟨_, _, hm.L7, ixv (k := 0 + 1) (ia ((rfl : (0 : Int32) = nI 0)) (rfl : (1 : Int32) = nI 1)) (by omega) (Nat.le_of_ble_eq_true rfl), ?_⟩
  rw [ixc (k := 0 + 1) (ia ((rfl : (0 : Int32) = nI 0)) (rfl : (1 : Int32) = nI 1)) (by omega)]
  conv => whnf
  refine ⟨_, _, hm.M, rfl, ?_⟩
  conv => whnf
  refine ⟨_, _, hm.L11, ixv (k := (p) + (0 + 1)) (ia ((rfl : nI (p) = nI (p))) (ia ((rfl : (0 : Int32) = nI 0)) (rfl : (1 : Int32) = nI 1))) (by omega) (Nat.le_of_ble_eq_true rfl), ?_⟩
  rw [ixc (k := (p) + (0 + 1)) (ia ((rfl : nI (p) = nI (p))) (ia ((rfl : (0 : Int32) = nI 0)) (rfl : (1 : Int32) = nI 1))) (by omega)]
  conv => whnf
  refine ⟨_, _, hm.L7, ixv (k := 0 + 1) (ia ((rfl : (0 : Int32) = nI 0)) (rfl : (1 : Int32) = nI 1)) (by omega) (Nat.le_of_ble_eq_true rfl), ?_⟩
  rw [ixc (k := 0 + 1) (ia ((rfl : (0 : Int32) = nI 0)) (rfl : (1 : Int32) = nI 1)) (by omega)]
  replace hm := hm.sL (a := 7) (i := 0 + 1) (by decide) ((show mL m1 7 (0 + 1) * Int64.ofInt pa - mL m1 11 (p + (0 + 1)) * Int64.ofInt pb = Int64.ofInt (pa * c.2.1 + -pb * u.2.1) by rw [← hg1]; show Int64.ofInt (m 7 1) * Int64.ofInt pa - Int64.ofInt (m 11 (p + (0 + 1))) * Int64.ofInt pb = _; rw [c1, u1]; exact oIcr2 _ _ _ _))
  generalize hg2 : mu m1 7 (0 + 1) _ = m2 at hm
  conv => whnf
  refine ⟨fun c_ => absurd c_ (by decide), fun c_ => ?_⟩
  conv => whnf
  refine hK _ _ _ _ _ _ (go hc 24 (fun K hK => ?_))
  conv => whnf
  refine ⟨_, _, hm.M, rfl, ?_⟩
  conv => whnf
  refine ⟨_, _, hm.M, rfl, ?_⟩
  conv => whnf
  refine ⟨_, _, hm.L7, ixv (k := 0 + 1 + 1) (ia (ia ((rfl : (0 : Int32) = nI 0)) (rfl : (1 : Int32) = nI 1)) (rfl : (1 : Int32) = nI 1)) (by omega) (Nat.le_of_ble_eq_true rfl), ?_⟩
  rw [ixc (k := 0 + 1 + 1) (ia (ia ((rfl : (0 : Int32) = nI 0)) (rfl : (1 : Int32) = nI 1)) (rfl : (1 : Int32) = nI 1)) (by omega)]
  conv => whnf
  refine ⟨_, _, hm.M, rfl, ?_⟩
  conv => whnf
  refine ⟨_, _, hm.L11, ixv (k := (p) + (0 + 1 + 1)) (ia ((rfl : nI (p) = nI (p))) (ia (ia ((rfl : (0 : Int32) = nI 0)) (rfl : (1 : Int32) = nI 1)) (rfl : (1 : Int32) = nI 1))) (by omega) (Nat.le_of_ble_eq_true rfl), ?_⟩
  rw [ixc (k := (p) + (0 + 1 + 1)) (ia ((rfl : nI (p) = nI (p))) (ia (ia ((rfl : (0 : Int32) = nI 0)) (rfl : (1 : Int32) = nI 1)) (rfl : (1 : Int32) = nI 1))) (by omega)]
  conv => whnf
  refine ⟨_, _, hm.L7, ixv (k := 0 + 1 + 1) (ia (ia ((rfl : (0 : Int32) = nI 0)) (rfl : (1 : Int32) = nI 1)) (rfl : (1 : Int32) = nI 1)) (by omega) (Nat.le_of_ble_eq_true rfl), ?_⟩
  rw [ixc (k := 0 + 1 + 1) (ia (ia ((rfl : (0 : Int32) = nI 0)) (rfl : (1 : Int32) = nI 1)) (rfl : (1 : Int32) = nI 1)) (by omega)]
  replace hm := hm.sL (a := 7) (i := 0 + 1 + 1) (by decide) ((show mL m2 7 (0 + 1 + 1) * Int64.ofInt pa - mL m2 11 (p + (0 + 1 + 1)) * Int64.ofInt pb = Int64.ofInt (pa * c.2.2 + -pb * u.2.2) by rw [← hg2, ← hg1]; show Int64.ofInt (m 7 2) * Int64.ofInt pa - Int64.ofInt (m 11 (p + (0 + 1 + 1))) * Int64.ofInt pb = _; rw [c2, u2]; exact oIcr2 _ _ _ _))
  generalize hg3 : mu m2 7 (0 + 1 + 1) _ = m3 at hm
  conv => whnf
  have v3 : vAt m3 7 0 = lin pa (-pb) c u := by rw [← hg3, ← hg2, ← hg1]; rfl
  have f3 : Fx [7] m m3 := by rw [← hg3, ← hg2, ← hg1]; exact ((Fx.refl.mu (by decide)).mu (by decide)).mu (by decide)
  refine ⟨fun c_ => ?_, fun c_ => absurd (by decide) c_⟩
  conv => whnf
  refine hK _ _ _ _ _ _ (go hc 5 (fun K hK => ?_))
  conv => whnf
  refine ⟨_, _, hm.M, rfl, ?_⟩
  conv => whnf
  refine ⟨Nat.le_of_ble_eq_true rfl, ?_⟩
  conv => whnf
  refine callee hc (e_lessen hm (by rw [v3]; exact hv) ?_)
  intro m4 h4 hm v4 f4
  conv => whnf
  rw [v3] at v4
  exact hQ m4 h4 hm v4 (f3.trans f4)
theorem e_isTight (hm : MR m D Z h) {i j : Nat} {X Y : Int32} (hX : X = nI i) (hY : Y = nI j) (hi : 3 * i + 2 < 1800) (hj : 3 * j + 2 < 1800) {u v : V3} (hu : vAt m 5 (3 * i) = u) (hv : vAt m 4 (3 * j) = v) (hd : inL (dot u v)) (hQ : Q (.inl (some (.int (bI01 (decide (dot u v = 0)))))) h) : wpC sc (d + 2) 105 [.ref 60, .int X, .int Y] h Q := by
  subst hX; subst hY; subst hu; subst hv
  refine enter rfl rfl (fun call hc => go hc 14 (fun K hK => ?_))
  conv => whnf
  refine ⟨_, _, hm.M, rfl, ?_⟩
  conv => whnf
  refine ⟨_, _, hm.M, rfl, ?_⟩
  conv => whnf
  refine ⟨Nat.le_of_ble_eq_true rfl, ?_⟩
  conv => whnf
  refine callee hc (e_dot hm (a := 5) (b := 4) (i := 3 * i) (j := 3 * j) (by decide) (by decide) (im rfl rfl) (im rfl rfl) hi hj ?_)
  conv => whnf
  by_cases c : dot (vAt m 5 (3 * i)) (vAt m 4 (3 * j)) = 0
  · rw [decide_eq_true c] at hQ
    refine ⟨fun c_ => ?_, fun c_ => absurd ((kEq0 hd).mpr c) c_⟩
    conv => whnf
    refine hK _ _ _ _ _ _ (go hc 3 (fun K hK => ?_))
    conv => whnf
    exact ⟨Or.inr rfl, hQ⟩
  · rw [decide_eq_false c] at hQ
    refine ⟨fun c_ => absurd c_ (fun q => c ((kEq0 hd).mp q)), fun c_ => ?_⟩
    conv => whnf
    refine hK _ _ _ _ _ _ (go hc 2 (fun K hK => ?_))
    conv => whnf
    exact ⟨Or.inl rfl, hQ⟩
theorem e_load (hm : MR m D Z h) {a i : Nat} {X : Int32} (ha : larr a) (hX : X = nI i) (hi : 3 * i + 2 < alen a) {v : V3} (hv : vAt m a (3 * i) = v) (hvi : inV v) (hQ : ∀ m' h', MR m' D Z h' → vAt m' 7 0 = prm v → Fx [7] m m' → Q (.inl none) h') : wpC sc (d + 4) 106 [.ref 60, .ref (a + 60), .int X] h Q := by
  subst hX
  have h1 := alen_lt a
  refine enter rfl rfl (fun call hc => go hc 22 (fun K hK => ?_))
  conv => whnf
  refine ⟨_, _, hm.L (a := a) (by assumption), ixv (k := (3) * (i)) (im ((rfl : (3 : Int32) = nI 3)) ((rfl : nI (i) = nI (i)))) (by omega) (alen_lt _), ?_⟩
  rw [ixc (k := (3) * (i)) (im ((rfl : (3 : Int32) = nI 3)) ((rfl : nI (i) = nI (i)))) (by omega)]
  conv => whnf
  refine ⟨_, _, hm.L (a := a) (by assumption), ixv (k := ((3) * (i)) + (1)) (ia (im ((rfl : (3 : Int32) = nI 3)) ((rfl : nI (i) = nI (i)))) ((rfl : (1 : Int32) = nI 1))) (by omega) (alen_lt _), ?_⟩
  rw [ixc (k := ((3) * (i)) + (1)) (ia (im ((rfl : (3 : Int32) = nI 3)) ((rfl : nI (i) = nI (i)))) ((rfl : (1 : Int32) = nI 1))) (by omega)]
  conv => whnf
  refine ⟨_, _, hm.L (a := a) (by assumption), ixv (k := ((3) * (i)) + (2)) (ia (im ((rfl : (3 : Int32) = nI 3)) ((rfl : nI (i) = nI (i)))) ((rfl : (2 : Int32) = nI 2))) (by omega) (alen_lt _), ?_⟩
  rw [ixc (k := ((3) * (i)) + (2)) (ia (im ((rfl : (3 : Int32) = nI 3)) ((rfl : nI (i) = nI (i)))) ((rfl : (2 : Int32) = nI 2))) (by omega)]
  conv => whnf
  refine ⟨_, hm.M, Nat.le_of_ble_eq_true rfl, ?_⟩
  conv => whnf
  refine callee hc (e_put hm v (by unfold mL; rw [show m a (3 * i) = v.1 from congrArg Prod.fst hv]) (by unfold mL; rw [show m a (3 * i + 1) = v.2.1 from congrArg (fun v : V3 => v.2.1) hv]) (by unfold mL; rw [show m a (3 * i + 2) = v.2.2 from congrArg (fun v : V3 => v.2.2) hv]) hvi ?_)
  intro m1 h1 hm v1 f1
  conv => whnf
  exact hQ m1 h1 hm v1 f1
def rctV (c : V3) : V3 := if c.2.1 < 0 ∨ (c.2.1 = 0 ∧ c.2.2 < 0) then neg3 c else c
theorem e_rectify (hm : MR m D Z h) {c : V3} (hcv : vAt m 7 0 = c) (hci : inV c) (hQ : ∀ m' h', MR m' D Z h' → vAt m' 7 0 = rctV c → Fx [7] m m' → Q (.inl none) h') : wpC sc (d + 2) 107 [.ref 60] h Q := by
  subst hcv
  unfold rctV at hQ
  have t33 : ∀ {call : Callee}, call = wpC sc (d + 1) → ((vAt m 7 0).2.1 < 0 ∨ ((vAt m 7 0).2.1 = 0 ∧ (vAt m 7 0).2.2 < 0)) → Runs (d + 1) call sc m_X4_rectify (qth (mTh m_X4_rectify) Q) 33 [(0, .ref 60)] [] h 0 0 := by
    intro call hc q
    rw [if_pos q] at hQ
    refine go hc 2 (fun K hK => ?_)
    conv => whnf
    refine ⟨_, hm.M, Nat.le_of_ble_eq_true rfl, ?_⟩
    conv => whnf
    refine callee hc (e_turn hm ?_)
    intro m1 h1 hm v1 f1
    conv => whnf
    refine hK _ _ _ _ _ _ ?_
    refine go hc 1 (fun K hK => ?_)
    conv => whnf
    exact hQ m1 h1 hm v1 f1
  have t37 : ∀ {call : Callee}, call = wpC sc (d + 1) → ¬ ((vAt m 7 0).2.1 < 0 ∨ ((vAt m 7 0).2.1 = 0 ∧ (vAt m 7 0).2.2 < 0)) → Runs (d + 1) call sc m_X4_rectify (qth (mTh m_X4_rectify) Q) 37 [(0, .ref 60)] [] h 0 0 := by
    intro call hc q
    rw [if_neg q] at hQ
    refine go hc 1 (fun K hK => ?_)
    conv => whnf
    exact hQ m h hm rfl Fx.refl
  refine enter rfl rfl (fun call hc => go hc 7 (fun K hK => ?_))
  conv => whnf
  refine ⟨_, _, hm.M, rfl, ?_⟩
  conv => whnf
  refine ⟨_, _, hm.L7, ixv (k := 1) ((rfl : (1 : Int32) = nI 1)) (by omega) (Nat.le_of_ble_eq_true rfl), ?_⟩
  rw [ixc (k := 1) ((rfl : (1 : Int32) = nI 1)) (by omega)]
  conv => whnf
  by_cases c1 : (vAt m 7 0).2.1 < 0
  · refine ⟨fun c_ => ?_, fun c_ => absurd ((kLt0 hci.2.1).mpr c1) c_⟩
    conv => whnf
    refine hK _ _ _ _ _ _ (t33 hc (Or.inl c1))
  · refine ⟨fun c_ => absurd c_ (fun q => c1 ((kLt0 hci.2.1).mp q)), fun c_ => ?_⟩
    conv => whnf
    refine hK _ _ _ _ _ _ (go hc 7 (fun K hK => ?_))
    conv => whnf
    refine ⟨_, _, hm.M, rfl, ?_⟩
    conv => whnf
    refine ⟨_, _, hm.L7, ixv (k := 1) ((rfl : (1 : Int32) = nI 1)) (by omega) (Nat.le_of_ble_eq_true rfl), ?_⟩
    rw [ixc (k := 1) ((rfl : (1 : Int32) = nI 1)) (by omega)]
    conv => whnf
    by_cases c2 : (vAt m 7 0).2.1 = 0
    · refine ⟨fun c_ => ?_, fun c_ => absurd ((kEq0 hci.2.1).mpr c2) c_⟩
      conv => whnf
      refine hK _ _ _ _ _ _ (go hc 7 (fun K hK => ?_))
      conv => whnf
      refine ⟨_, _, hm.M, rfl, ?_⟩
      conv => whnf
      refine ⟨_, _, hm.L7, ixv (k := 2) ((rfl : (2 : Int32) = nI 2)) (by omega) (Nat.le_of_ble_eq_true rfl), ?_⟩
      rw [ixc (k := 2) ((rfl : (2 : Int32) = nI 2)) (by omega)]
      conv => whnf
      by_cases c3 : (vAt m 7 0).2.2 < 0
      · refine ⟨fun c_ => absurd c_ (fun q => by have := (kGe0 hci.2.2).mp q; omega), fun c_ => ?_⟩
        conv => whnf
        refine hK _ _ _ _ _ _ (t33 hc (Or.inr ⟨c2, c3⟩))
      · refine ⟨fun c_ => ?_, fun c_ => absurd ((kGe0 hci.2.2).mpr (by omega)) c_⟩
        conv => whnf
        refine hK _ _ _ _ _ _ (t37 hc (by omega))
    · refine ⟨fun c_ => absurd c_ (fun q => c2 ((kEq0 hci.2.1).mp q)), fun c_ => ?_⟩
      conv => whnf
      refine hK _ _ _ _ _ _ (t37 hc (by omega))
end EMAKE
