/-! keeping what has been found -/
def kp (F : List V3) (c : V3) : List V3 := if c ∈ F then F else F ++ [c]
theorem mF_of {m : MM} {a n : Nat} (h : m a 0 = (n : Int)) : mF m a = nI n := by unfold mF; rw [h]; rfl
theorem RW.at {m : MM} {a b : Nat} {l : List V3} (h : RW m a b l) {i : Nat} (hi : i < l.length) : m a (b + 3 * i) = (gt l i).1 ∧ m a (b + 3 * i + 1) = (gt l i).2.1 ∧ m a (b + 3 * i + 2) = (gt l i).2.2 := by
  have := h i hi
  exact ⟨congrArg Prod.fst this, congrArg (fun v : V3 => v.2.1) this, congrArg (fun v : V3 => v.2.2) this⟩
theorem RW.at0 {m : MM} {a : Nat} {l : List V3} (h : RW m a 0 l) {i : Nat} (hi : i < l.length) : m a (3 * i) = (gt l i).1 ∧ m a (3 * i + 1) = (gt l i).2.1 ∧ m a (3 * i + 2) = (gt l i).2.2 := by
  have := h.at hi
  rw [Nat.zero_add] at this
  exact this
theorem RW.v0 {m : MM} {a : Nat} {l : List V3} (h : RW m a 0 l) {i : Nat} (hi : i < l.length) : vAt m a (3 * i) = gt l i := by
  have := h i hi
  rw [Nat.zero_add] at this
  exact this
theorem gt_app1 {l : List V3} {v : V3} : gt (l ++ [v]) l.length = v := gt_of List.getElem?_concat_length
theorem gt_appl {l k : List V3} {i : Nat} (h : i < l.length) : gt (l ++ k) i = gt l i := by
  unfold gt
  rw [List.getD_eq_getElem?_getD, List.getD_eq_getElem?_getD, List.getElem?_append_left h]
/-- one row more -/
theorem RW.push {m m' : MM} {a b : Nat} {l : List V3} {v : V3} (h : RW m a b l) (ho : ∀ j, j < b + 3 * l.length → m' a j = m a j) (hv : vAt m' a (b + 3 * l.length) = v) : RW m' a b (l ++ [v]) := by
  intro i hi
  rw [List.length_append, List.length_singleton] at hi
  by_cases c : i < l.length
  · rw [gt_appl c, ← h i c]
    unfold vAt
    rw [ho _ (by omega), ho _ (by omega), ho _ (by omega)]
  · have e : i = l.length := by omega
    rw [e, gt_app1]; exact hv
theorem v_ne {u v : V3} (h : u ≠ v) : u.1 ≠ v.1 ∨ u.2.1 ≠ v.2.1 ∨ u.2.2 ≠ v.2.2 := by
  refine Classical.byContradiction fun q => h ?_
  have h1 : u.1 = v.1 := Classical.byContradiction fun z => q (Or.inl z)
  have h2 : u.2.1 = v.2.1 := Classical.byContradiction fun z => q (Or.inr (Or.inl z))
  have h3 : u.2.2 = v.2.2 := Classical.byContradiction fun z => q (Or.inr (Or.inr z))
  exact Prod.ext h1 (Prod.ext h2 h3)
section EKEEP
variable {sc : Scr} {d : Nat} {m : MM} {D Z h : PH} {Q : Out → PH → Prop} {F : List V3}
theorem kp_loop {call : Callee} (hc : call = wpC sc d) (hm : MR m D Z h) (F7 : mF m 16 = nI F.length) (hF : RW m 6 0 F) (hl : F.length < 600) (hin : ∀ f ∈ F, inV f) (hcv : inV (vAt m 7 0)) (hend : vAt m 7 0 ∉ F → Runs d call sc m_X4_keep Q 75 [(0, .ref 60)] [] h 0 0) (hQ : vAt m 7 0 ∈ F → Q (.inl none) h) :
    ∀ (n i : Nat), i + n = F.length → (∀ k, k < i → gt F k ≠ vAt m 7 0) → Runs d call sc m_X4_keep Q 2 [(0, .ref 60), (1, .int (nI i))] [] h 0 0 := by
  intro n
  induction n with
  | zero =>
    intro i hi hno
    have hn : vAt m 7 0 ∉ F := fun q => by
      obtain ⟨k, hk, he⟩ := List.getElem_of_mem q
      exact hno k (by omega) (gt_of (List.getElem?_eq_some_iff.mpr ⟨hk, he⟩))
    refine go hc 4 (fun K hK => ?_)
    conv => whnf
    refine ⟨_, _, hm.M, rfl, ?_⟩
    rw [F7]
    conv => whnf
    refine ⟨fun c_ => ?_, fun c_ => absurd (nI_le (by omega) (by omega)) c_⟩
    conv => whnf
    try simp only [nI_1]
    refine hK _ _ _ _ _ _ (Runs.less hc [0] rfl rfl rfl rfl (hend hn))
  | succ n ih =>
    intro i hi hno
    have hil : i < F.length := by omega
    obtain ⟨e1, e2, e3⟩ := hF.at0 hil
    have hg := hin _ (gt_mem hil)
    have next : gt F i ≠ vAt m 7 0 → Runs d call sc m_X4_keep Q 69 [(0, .ref 60), (1, .int (nI i))] [] h 0 0 := fun q => by
      have hno' : ∀ k, k < i + 1 → gt F k ≠ vAt m 7 0 := fun k hk => by
        by_cases c : k = i
        · rw [c]; exact q
        · exact hno k (by omega)
      refine go hc 2 (fun K hK => ?_)
      conv => whnf
      try simp only [nI_1]
      refine hK _ _ _ _ _ _ (Runs.less hc [0, 1] rfl rfl rfl rfl (ih (i + 1) (by omega) hno'))
    refine go hc 4 (fun K hK => ?_)
    conv => whnf
    refine ⟨_, _, hm.M, rfl, ?_⟩
    rw [F7]
    conv => whnf
    refine ⟨fun c_ => absurd c_ (nI_ge (by omega) (by omega)), fun c_ => ?_⟩
    conv => whnf
    refine hK _ _ _ _ _ _ (go hc 12 (fun K hK => ?_))
    conv => whnf
    refine ⟨_, _, hm.M, rfl, ?_⟩
    conv => whnf
    refine ⟨_, _, hm.L6, ixv (k := (3) * (i)) (im ((rfl : (3 : Int32) = nI 3)) ((rfl : nI (i) = nI (i)))) (by omega) (Nat.le_of_ble_eq_true rfl), ?_⟩
    rw [ixc (k := (3) * (i)) (im ((rfl : (3 : Int32) = nI 3)) ((rfl : nI (i) = nI (i)))) (by omega)]
    conv => whnf
    refine ⟨_, _, hm.M, rfl, ?_⟩
    conv => whnf
    refine ⟨_, _, hm.L7, ixv (k := 0) ((rfl : (0 : Int32) = nI 0)) (by omega) (Nat.le_of_ble_eq_true rfl), ?_⟩
    rw [ixc (k := 0) ((rfl : (0 : Int32) = nI 0)) (by omega)]
    conv => whnf
    by_cases c1 : (gt F i).1 = (vAt m 7 0).1
    · refine ⟨fun c_ => ?_, fun c_ => absurd (by unfold mL; rw [e1]; exact (kEq hg.1 hcv.1).mpr c1) c_⟩
      conv => whnf
      refine hK _ _ _ _ _ _ (go hc 14 (fun K hK => ?_))
      conv => whnf
      refine ⟨_, _, hm.M, rfl, ?_⟩
      conv => whnf
      refine ⟨_, _, hm.L6, ixv (k := ((3) * (i)) + (1)) (ia (im ((rfl : (3 : Int32) = nI 3)) ((rfl : nI (i) = nI (i)))) ((rfl : (1 : Int32) = nI 1))) (by omega) (Nat.le_of_ble_eq_true rfl), ?_⟩
      rw [ixc (k := ((3) * (i)) + (1)) (ia (im ((rfl : (3 : Int32) = nI 3)) ((rfl : nI (i) = nI (i)))) ((rfl : (1 : Int32) = nI 1))) (by omega)]
      conv => whnf
      refine ⟨_, _, hm.M, rfl, ?_⟩
      conv => whnf
      refine ⟨_, _, hm.L7, ixv (k := 1) ((rfl : (1 : Int32) = nI 1)) (by omega) (Nat.le_of_ble_eq_true rfl), ?_⟩
      rw [ixc (k := 1) ((rfl : (1 : Int32) = nI 1)) (by omega)]
      conv => whnf
      by_cases c2 : (gt F i).2.1 = (vAt m 7 0).2.1
      · refine ⟨fun c_ => ?_, fun c_ => absurd (by unfold mL; rw [e2]; exact (kEq hg.2.1 hcv.2.1).mpr c2) c_⟩
        conv => whnf
        refine hK _ _ _ _ _ _ (go hc 14 (fun K hK => ?_))
        conv => whnf
        refine ⟨_, _, hm.M, rfl, ?_⟩
        conv => whnf
        refine ⟨_, _, hm.L6, ixv (k := ((3) * (i)) + (2)) (ia (im ((rfl : (3 : Int32) = nI 3)) ((rfl : nI (i) = nI (i)))) ((rfl : (2 : Int32) = nI 2))) (by omega) (Nat.le_of_ble_eq_true rfl), ?_⟩
        rw [ixc (k := ((3) * (i)) + (2)) (ia (im ((rfl : (3 : Int32) = nI 3)) ((rfl : nI (i) = nI (i)))) ((rfl : (2 : Int32) = nI 2))) (by omega)]
        conv => whnf
        refine ⟨_, _, hm.M, rfl, ?_⟩
        conv => whnf
        refine ⟨_, _, hm.L7, ixv (k := 2) ((rfl : (2 : Int32) = nI 2)) (by omega) (Nat.le_of_ble_eq_true rfl), ?_⟩
        rw [ixc (k := 2) ((rfl : (2 : Int32) = nI 2)) (by omega)]
        conv => whnf
        by_cases c3 : (gt F i).2.2 = (vAt m 7 0).2.2
        · refine ⟨fun c_ => ?_, fun c_ => absurd (by unfold mL; rw [e3]; exact (kEq hg.2.2 hcv.2.2).mpr c3) c_⟩
          conv => whnf
          refine hK _ _ _ _ _ _ (go hc 1 (fun K hK => ?_))
          conv => whnf
          exact hQ (by rw [← show gt F i = vAt m 7 0 from Prod.ext c1 (Prod.ext c2 c3)]; exact gt_mem hil)
        · refine ⟨fun c_ => absurd c_ (by unfold mL; rw [e3]; exact fun q => c3 ((kEq hg.2.2 hcv.2.2).mp q)), fun c_ => ?_⟩
          conv => whnf
          try simp only [nI_1]
          refine hK _ _ _ _ _ _ (Runs.less hc [0, 1] rfl rfl rfl rfl (next fun q => c3 (by rw [q])))
      · refine ⟨fun c_ => absurd c_ (by unfold mL; rw [e2]; exact fun q => c2 ((kEq hg.2.1 hcv.2.1).mp q)), fun c_ => ?_⟩
        conv => whnf
        try simp only [nI_1]
        refine hK _ _ _ _ _ _ (Runs.less hc [0, 1] rfl rfl rfl rfl (next fun q => c2 (by rw [q])))
    · refine ⟨fun c_ => absurd c_ (by unfold mL; rw [e1]; exact fun q => c1 ((kEq hg.1 hcv.1).mp q)), fun c_ => ?_⟩
      conv => whnf
      try simp only [nI_1]
      refine hK _ _ _ _ _ _ (Runs.less hc [0, 1] rfl rfl rfl rfl (next fun q => c1 (by rw [q])))
theorem e_keep (hm : MR m D Z h) (hfn : m 16 0 = (F.length : Int)) (hF : RW m 6 0 F) (hl : F.length < 600) (hin : ∀ f ∈ F, inV f) (hcv : inV (vAt m 7 0))
    (hQ : ∀ m' h', MR m' D Z h' → RW m' 6 0 (kp F (vAt m 7 0)) → m' 16 0 = ((kp F (vAt m 7 0)).length : Int) → Fx [6, 16] m m' → Q (.inl none) h') : wpC sc (d + 1) 84 [.ref 60] h Q := by
  have F7 := mF_of hfn
  refine enter rfl rfl (fun call hc => go hc 2 (fun K hK => ?_))
  conv => whnf
  try simp only [nI_1]
  refine hK _ _ _ _ _ _ (Runs.less hc [0, 1] rfl rfl rfl rfl (kp_loop (Q := qth _ Q) hc hm F7 hF hl hin hcv ?_ ?_ F.length 0 (by omega) (fun k hk => by omega)))
  · intro hno
    unfold kp at hQ
    rw [if_neg hno] at hQ
    refine go hc 5 (fun K hK => ?_)
    conv => whnf
    refine ⟨fun c_ => absurd c_ (by decide), fun c_ => ?_⟩
    conv => whnf
    refine hK _ _ _ _ _ _ (go hc 18 (fun K hK => ?_))
    conv => whnf
    refine ⟨_, _, hm.M, rfl, ?_⟩
    conv => whnf
    refine ⟨_, _, hm.M, rfl, ?_⟩
    rw [F7]
    conv => whnf
    refine ⟨_, _, hm.M, rfl, ?_⟩
    conv => whnf
    refine ⟨_, _, hm.L7, ixv (k := 0) ((rfl : (0 : Int32) = nI 0)) (by omega) (Nat.le_of_ble_eq_true rfl), ?_⟩
    rw [ixc (k := 0) ((rfl : (0 : Int32) = nI 0)) (by omega)]
    conv => whnf
    refine ⟨_, _, hm.L6, ixv (k := ((3) * (F.length)) + (0)) (ia (im ((rfl : (3 : Int32) = nI 3)) ((rfl : nI (F.length) = nI (F.length)))) ((rfl : (0 : Int32) = nI 0))) (by omega) (Nat.le_of_ble_eq_true rfl), ?_⟩
    rw [ixc (k := ((3) * (F.length)) + (0)) (ia (im ((rfl : (3 : Int32) = nI 3)) ((rfl : nI (F.length) = nI (F.length)))) ((rfl : (0 : Int32) = nI 0))) (by omega)]
    replace hm := hm.sL (a := 6) (i := ((3) * (F.length)) + (0)) (by decide) ((rfl : mL m 7 0 = Int64.ofInt (m 7 0)))
    generalize hg1 : mu m 6 (3 * F.length + 0) _ = m1 at hm
    have g1 : mF m1 16 = nI F.length := by rw [← hg1]; exact F7
    clear F7
    have F7 := g1
    conv => whnf
    refine ⟨fun c_ => absurd c_ (by decide), fun c_ => ?_⟩
    conv => whnf
    refine hK _ _ _ _ _ _ (go hc 18 (fun K hK => ?_))
    conv => whnf
    refine ⟨_, _, hm.M, rfl, ?_⟩
    conv => whnf
    refine ⟨_, _, hm.M, rfl, ?_⟩
    rw [F7]
    conv => whnf
    refine ⟨_, _, hm.M, rfl, ?_⟩
    conv => whnf
    refine ⟨_, _, hm.L7, ixv (k := 0 + 1) (ia ((rfl : (0 : Int32) = nI 0)) (rfl : (1 : Int32) = nI 1)) (by omega) (Nat.le_of_ble_eq_true rfl), ?_⟩
    rw [ixc (k := 0 + 1) (ia ((rfl : (0 : Int32) = nI 0)) (rfl : (1 : Int32) = nI 1)) (by omega)]
    conv => whnf
    refine ⟨_, _, hm.L6, ixv (k := ((3) * (F.length)) + (0 + 1)) (ia (im ((rfl : (3 : Int32) = nI 3)) ((rfl : nI (F.length) = nI (F.length)))) (ia ((rfl : (0 : Int32) = nI 0)) (rfl : (1 : Int32) = nI 1))) (by omega) (Nat.le_of_ble_eq_true rfl), ?_⟩
    rw [ixc (k := ((3) * (F.length)) + (0 + 1)) (ia (im ((rfl : (3 : Int32) = nI 3)) ((rfl : nI (F.length) = nI (F.length)))) (ia ((rfl : (0 : Int32) = nI 0)) (rfl : (1 : Int32) = nI 1))) (by omega)]
    replace hm := hm.sL (a := 6) (i := ((3) * (F.length)) + (0 + 1)) (by decide) ((show mL m1 7 (0 + 1) = Int64.ofInt (m 7 1) by rw [← hg1]; rfl))
    generalize hg2 : mu m1 6 (3 * F.length + (0 + 1)) _ = m2 at hm
    have g2 : mF m2 16 = nI F.length := by rw [← hg2]; exact F7
    clear F7
    have F7 := g2
    conv => whnf
    refine ⟨fun c_ => absurd c_ (by decide), fun c_ => ?_⟩
    conv => whnf
    refine hK _ _ _ _ _ _ (go hc 18 (fun K hK => ?_))
    conv => whnf
    refine ⟨_, _, hm.M, rfl, ?_⟩
    conv => whnf
    refine ⟨_, _, hm.M, rfl, ?_⟩
    rw [F7]
    conv => whnf
    refine ⟨_, _, hm.M, rfl, ?_⟩
    conv => whnf
    refine ⟨_, _, hm.L7, ixv (k := 0 + 1 + 1) (ia (ia ((rfl : (0 : Int32) = nI 0)) (rfl : (1 : Int32) = nI 1)) (rfl : (1 : Int32) = nI 1)) (by omega) (Nat.le_of_ble_eq_true rfl), ?_⟩
    rw [ixc (k := 0 + 1 + 1) (ia (ia ((rfl : (0 : Int32) = nI 0)) (rfl : (1 : Int32) = nI 1)) (rfl : (1 : Int32) = nI 1)) (by omega)]
    conv => whnf
    refine ⟨_, _, hm.L6, ixv (k := ((3) * (F.length)) + (0 + 1 + 1)) (ia (im ((rfl : (3 : Int32) = nI 3)) ((rfl : nI (F.length) = nI (F.length)))) (ia (ia ((rfl : (0 : Int32) = nI 0)) (rfl : (1 : Int32) = nI 1)) (rfl : (1 : Int32) = nI 1))) (by omega) (Nat.le_of_ble_eq_true rfl), ?_⟩
    rw [ixc (k := ((3) * (F.length)) + (0 + 1 + 1)) (ia (im ((rfl : (3 : Int32) = nI 3)) ((rfl : nI (F.length) = nI (F.length)))) (ia (ia ((rfl : (0 : Int32) = nI 0)) (rfl : (1 : Int32) = nI 1)) (rfl : (1 : Int32) = nI 1))) (by omega)]
    replace hm := hm.sL (a := 6) (i := ((3) * (F.length)) + (0 + 1 + 1)) (by decide) ((show mL m2 7 (0 + 1 + 1) = Int64.ofInt (m 7 2) by rw [← hg2, ← hg1]; rfl))
    generalize hg3 : mu m2 6 (3 * F.length + (0 + 1 + 1)) _ = m3 at hm
    have g3 : mF m3 16 = nI F.length := by rw [← hg3]; exact F7
    clear F7
    have F7 := g3
    conv => whnf
    refine ⟨fun c_ => ?_, fun c_ => absurd (by decide) c_⟩
    conv => whnf
    refine hK _ _ _ _ _ _ (go hc 7 (fun K hK => ?_))
    conv => whnf
    refine ⟨_, _, hm.M, rfl, ?_⟩
    rw [F7]
    conv => whnf
    refine ⟨_, hm.M, Nat.le_of_ble_eq_true rfl, ?_⟩
    replace hm := hm.fn (v := ((F ++ [vAt m 7 0]).length : Int)) (by rw [List.length_append, List.length_singleton, nI_ofI, ← nI_1])
    conv => whnf
    refine hQ _ _ hm ?_ ?_ ?_
    · refine RW.push hF (fun j hj => ?_) ?_
      · show m3 6 j = m 6 j
        rw [← hg3, mu_at_ne _ _ _ (by omega), ← hg2, mu_at_ne _ _ _ (by omega), ← hg1, mu_at_ne _ _ _ (by omega)]
      · show vAt m3 6 (0 + 3 * F.length) = vAt m 7 0
        rw [Nat.zero_add]
        unfold vAt
        rw [← hg3, mu_at, mu_at_ne _ _ _ (by omega), mu_at_ne _ _ _ (by omega), ← hg2, mu_at, mu_at_ne _ _ _ (by omega), ← hg1, Nat.add_zero, mu_at]
    · rfl
    · refine Fx.mu ?_ (by decide)
      rw [← hg3, ← hg2, ← hg1]
      exact ((Fx.refl.mu (by decide)).mu (by decide)).mu (by decide)
  · intro hyes
    unfold kp at hQ
    rw [if_pos hyes] at hQ
    exact hQ m h hm hF hfn Fx.refl
end EKEEP
