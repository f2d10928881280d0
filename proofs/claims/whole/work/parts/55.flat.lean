/-! which constraints hold with equality everywhere -/
def flatB (G : List V3) (k : V3) : Bool := G.all fun g => decide (dot k g = 0)
def b2i : Bool → Int
  | true => 1
  | false => 0
def fl2 (C G : List V3) : Nat → Nat → Option Nat → Nat → Nat
  | 0, _, _, dm => dm
  | n + 1, i, f, dm => if flatB G (gt C i) = true then (match f with
      | none => fl2 C G n (i + 1) (some i) 1
      | some j => fl2 C G n (i + 1) (some j) (if xp (gt C j) (gt C i) = (0, 0, 0) then dm else 0)) else fl2 C G n (i + 1) f dm
def flaD (C G : List V3) : Nat := fl2 C G C.length 0 none 2
theorem nar_b (b : Bool) : vp_nar .boolean (bI01 b) = Int32.ofInt (b2i b) := by cases b <;> rfl
/-- the rows that the reference works with -/
def KG (m : MM) (C G : List V3) : Prop := RW m 5 0 C ∧ m 15 0 = (C.length : Int) ∧ C.length < 600 ∧ RW m 4 0 G ∧ m 14 0 = (G.length : Int) ∧ G.length ≤ 600
theorem KG.fx {m m' : MM} {C G : List V3} {fr : List Nat} (h : KG m C G) (hf : Fx fr m m') (h1 : 4 ∉ fr) (h2 : 5 ∉ fr) (h3 : 14 ∉ fr) (h4 : 15 ∉ fr) : KG m' C G :=
  ⟨h.1.eq (hf 5 h2), by rw [hf 15 h4]; exact h.2.1, h.2.2.1, h.2.2.2.1.eq (hf 4 h1), by rw [hf 14 h3]; exact h.2.2.2.2.1, h.2.2.2.2.2⟩
theorem KG.F6 {m : MM} {C G : List V3} (h : KG m C G) : mF m 15 = nI C.length := mF_of h.2.1
theorem KG.F5 {m : MM} {C G : List V3} (h : KG m C G) : mF m 14 = nI G.length := mF_of h.2.2.2.2.1
theorem KG.k {m : MM} {C G : List V3} (h : KG m C G) {i : Nat} (hi : i < C.length) : vAt m 5 (3 * i) = gt C i := h.1.v0 hi
theorem KG.g {m : MM} {C G : List V3} (h : KG m C G) {i : Nat} (hi : i < G.length) : vAt m 4 (3 * i) = gt G i := h.2.2.2.1.v0 hi
section EFLAT
variable {sc : Scr} {d : Nat} {m : MM} {D Z h : PH} {Q : Out → PH → Prop} {C G : List V3}
theorem fl_in {call : Callee} (hc : call = wpC sc (d + 3)) {m0 : MM} (h0 : KG m0 C G) {i : Nat} (hi : i < C.length) (hd : ∀ g ∈ G, inL (dot (gt C i) g)) {f dm : Int32} {b : Bool}
    (hQ : ∀ m' h', MR m' D Z h' → m' 9 i = b2i b → (∀ x, x ≠ i → m' 9 x = m0 9 x) → Fx [9] m0 m' → Runs (d + 3) call sc m_X4_flatten Q 61 [(0, .ref 60), (1, .int f), (2, .int dm), (3, .int (nI i))] [] h' 0 0) :
    ∀ (n j : Nat) (m : MM) (h : PH), j + n = G.length → MR m D Z h → m 9 i = 1 → (∀ x, x ≠ i → m 9 x = m0 9 x) → Fx [9] m0 m → flatB (G.drop j) (gt C i) = b →
    Runs (d + 3) call sc m_X4_flatten Q 24 [(0, .ref 60), (1, .int f), (2, .int dm), (3, .int (nI i)), (4, .int (nI j))] [] h 0 0 := by
  have hcl := h0.2.2.1
  have hgl := h0.2.2.2.2.2
  intro n
  induction n with
  | zero =>
    intro j m h hj hm h1 ho hf hb
    rw [List.drop_eq_nil_of_le (by omega)] at hb
    have hb : true = b := hb
    subst hb
    have F5 := (h0.fx hf (by decide) (by decide) (by decide) (by decide)).F5
    refine go hc 4 (fun K hK => ?_)
    conv => whnf
    refine ⟨_, _, hm.M, rfl, ?_⟩
    rw [F5]
    conv => whnf
    refine ⟨fun c_ => ?_, fun c_ => absurd (nI_le (by omega) (by omega)) c_⟩
    conv => whnf
    try simp only [nI_1]
    refine hK _ _ _ _ _ _ (Runs.less hc [0, 1, 2, 3] rfl rfl rfl rfl (hQ m h hm h1 ho hf))
  | succ n ih =>
    intro j m h hj hm h1 ho hf hb
    have hjl : j < G.length := by omega
    have hkg := h0.fx hf (by decide) (by decide) (by decide) (by decide)
    have F5 := hkg.F5
    have hdg := hd _ (gt_mem hjl)
    rw [drop_gt hjl] at hb
    unfold flatB at hb
    rw [List.all_cons] at hb
    have e1 : mI m 9 i = 1 := by unfold mI; rw [h1]; rfl
    refine go hc 4 (fun K hK => ?_)
    conv => whnf
    refine ⟨_, _, hm.M, rfl, ?_⟩
    rw [F5]
    conv => whnf
    refine ⟨fun c_ => absurd c_ (nI_ge hjl (by omega)), fun c_ => ?_⟩
    conv => whnf
    refine hK _ _ _ _ _ _ (go hc 5 (fun K hK => ?_))
    conv => whnf
    refine ⟨_, _, hm.M, rfl, ?_⟩
    conv => whnf
    refine ⟨_, _, hm.B9, ixv (k := i) ((rfl : nI (i) = nI (i))) (by omega) (Nat.le_of_ble_eq_true rfl), ?_⟩
    rw [ixc (k := i) ((rfl : nI (i) = nI (i))) (by omega)]
    conv => whnf
    refine ⟨fun c_ => absurd c_ (by rw [e1]; decide), fun c_ => ?_⟩
    conv => whnf
    refine hK _ _ _ _ _ _ (go hc 10 (fun K hK => ?_))
    conv => whnf
    refine ⟨_, _, hm.M, rfl, ?_⟩
    conv => whnf
    refine ⟨_, hm.M, Nat.le_of_ble_eq_true rfl, ?_⟩
    conv => whnf
    refine callee hc (e_isTight hm rfl rfl (by omega) (by omega) (hkg.k hi) (hkg.g hjl) hdg ?_)
    conv => whnf
    refine ⟨_, _, hm.B9, ixv (k := i) ((rfl : nI (i) = nI (i))) (by omega) (Nat.le_of_ble_eq_true rfl), ?_⟩
    rw [ixc (k := i) ((rfl : nI (i) = nI (i))) (by omega)]
    replace hm := hm.sB (a := 9) (i := i) (by decide) (nar_b (decide (dot (gt C i) (gt G j) = 0)))
    conv => whnf
    by_cases c : dot (gt C i) (gt G j) = 0
    · rw [decide_eq_true c, Bool.true_and] at hb
      rw [decide_eq_true c] at hm
      rw [decide_eq_true c]
      try simp only [nI_1]
      refine hK _ _ _ _ _ _ (Runs.less hc [0, 1, 2, 3, 4] rfl rfl rfl rfl (ih (j + 1) _ _ (by omega) hm (mu_at _ _ _ _) (fun x hx => by rw [mu_at_ne _ _ _ hx]; exact ho x hx) (hf.mu (by decide)) hb))
    · rw [decide_eq_false c, Bool.false_and] at hb
      subst hb
      rw [decide_eq_false c] at hm
      rw [decide_eq_false c]
      have hfin := hQ _ _ hm (mu_at _ _ _ _) (fun x hx => by rw [mu_at_ne _ _ _ hx]; exact ho x hx) (hf.mu (by decide))
      have F5 : mF (mu m 9 i (b2i false)) 14 = nI G.length := F5
      refine hK _ _ _ _ _ _ ?_
      rw [nI_1]
      refine go hc 4 (fun K hK => ?_)
      conv => whnf
      refine ⟨_, _, hm.M, rfl, ?_⟩
      rw [F5]
      conv => whnf
      by_cases c2 : j + 1 < G.length
      · refine ⟨fun c_ => absurd c_ (nI_ge c2 (by omega)), fun c_ => ?_⟩
        conv => whnf
        refine hK _ _ _ _ _ _ (go hc 5 (fun K hK => ?_))
        conv => whnf
        refine ⟨_, _, hm.M, rfl, ?_⟩
        conv => whnf
        refine ⟨_, _, hm.B9, ixv (k := i) ((rfl : nI (i) = nI (i))) (by omega) (Nat.le_of_ble_eq_true rfl), ?_⟩
        rw [ixc (k := i) ((rfl : nI (i) = nI (i))) (by omega)]
        conv => whnf
        refine ⟨fun c_ => ?_, fun c_ => absurd (by unfold mI; rw [mu_at]; rfl) c_⟩
        conv => whnf
        try simp only [nI_1]
        refine hK _ _ _ _ _ _ (Runs.less hc [0, 1, 2, 3] rfl rfl rfl rfl hfin)
      · refine ⟨fun c_ => ?_, fun c_ => absurd (nI_le (by omega) (by omega)) c_⟩
        conv => whnf
        try simp only [nI_1]
        refine hK _ _ _ _ _ _ (Runs.less hc [0, 1, 2, 3] rfl rfl rfl rfl hfin)
theorem fl_out {call : Callee} (hc : call = wpC sc (d + 3)) {m0 : MM} (h0 : KG m0 C G) (hd : ∀ k ∈ C, ∀ g ∈ G, inL (dot k g)) (hx : ∀ k ∈ C, ∀ k' ∈ C, flatB G k = true → flatB G k' = true → inV (xp k k')) {R : Nat}
    (hQ : ∀ m' h', MR m' D Z h' → (∀ x, x < C.length → m' 9 x = b2i (flatB G (gt C x))) → Fx [7, 9] m0 m' → Q (.inl (some (.int (nI R)))) h') :
    ∀ (n i : Nat) (m : MM) (h : PH) (f : Option Nat) (dm : Nat), i + n = C.length → MR m D Z h → (∀ x, x < i → m 9 x = b2i (flatB G (gt C x))) → Fx [7, 9] m0 m → (∀ j, f = some j → j < i ∧ flatB G (gt C j) = true) → fl2 C G n i f dm = R →
    Runs (d + 3) call sc m_X4_flatten Q 6 [(0, .ref 60), (1, .int (fwI f)), (2, .int (nI dm)), (3, .int (nI i))] [] h 0 0 := by
  have hcl := h0.2.2.1
  have hgl := h0.2.2.2.2.2
  intro n
  induction n with
  | zero =>
    intro i m h f dm hi hm ho hf hff hR
    have hR : dm = R := hR
    subst hR
    have F6 := (h0.fx hf (by decide) (by decide) (by decide) (by decide)).F6
    refine go hc 4 (fun K hK => ?_)
    conv => whnf
    refine ⟨_, _, hm.M, rfl, ?_⟩
    rw [F6]
    conv => whnf
    refine ⟨fun c_ => ?_, fun c_ => absurd (nI_le (by omega) (by omega)) c_⟩
    conv => whnf
    refine hK _ _ _ _ _ _ (go hc 2 (fun K hK => ?_))
    conv => whnf
    exact hQ m h hm (fun x hx => ho x (by omega)) hf
  | succ n ih =>
    intro i m h f dm hi hm ho hf hff hR
    have hil : i < C.length := by omega
    have hkg := h0.fx hf (by decide) (by decide) (by decide) (by decide)
    have F6 := hkg.F6
    have hki := gt_mem hil
    unfold fl2 at hR
    have next : ∀ (m' : MM) (h' : PH) (f' : Option Nat) (dm' : Nat), MR m' D Z h' → (∀ x, x < i + 1 → m' 9 x = b2i (flatB G (gt C x))) → Fx [7, 9] m0 m' → (∀ j, f' = some j → j < i + 1 ∧ flatB G (gt C j) = true) → fl2 C G n (i + 1) f' dm' = R →
        Runs (d + 3) call sc m_X4_flatten Q 107 [(0, .ref 60), (1, .int (fwI f')), (2, .int (nI dm')), (3, .int (nI i))] [] h' 0 0 := by
      intro m' h' f' dm' hm' ho' hf' hff' hR'
      refine go hc 2 (fun K hK => ?_)
      conv => whnf
      try simp only [nI_1]
      refine hK _ _ _ _ _ _ (Runs.less hc [0, 1, 2, 3] rfl rfl rfl rfl (ih (i + 1) m' h' f' dm' (by omega) hm' ho' hf' hff' hR'))
    refine go hc 4 (fun K hK => ?_)
    conv => whnf
    refine ⟨_, _, hm.M, rfl, ?_⟩
    rw [F6]
    conv => whnf
    refine ⟨fun c_ => absurd c_ (nI_ge hil (by omega)), fun c_ => ?_⟩
    conv => whnf
    refine hK _ _ _ _ _ _ (go hc 7 (fun K hK => ?_))
    conv => whnf
    refine ⟨_, _, hm.M, rfl, ?_⟩
    conv => whnf
    refine ⟨_, _, hm.B9, ixv (k := i) ((rfl : nI (i) = nI (i))) (by omega) (Nat.le_of_ble_eq_true rfl), ?_⟩
    rw [ixc (k := i) ((rfl : nI (i) = nI (i))) (by omega)]
    replace hm := hm.sB (a := 9) (i := i) (by decide) (nar_b true)
    conv => whnf
    try simp only [nI_1]
    refine hK _ _ _ _ _ _ (Runs.less hc [0, 1, 2, 3, 4] rfl rfl rfl rfl (fl_in hc (b := flatB G (gt C i)) (hkg.fx (fr := [9]) (Fx.refl.mu (by decide)) (by decide) (by decide) (by decide) (by decide)) hil (fun g hg => hd _ hki g hg) ?_ G.length 0 _ _ (by omega) hm (mu_at _ _ _ _) (fun x _ => rfl) Fx.refl rfl))
    intro m1 h1 hm b1 o1 f1
    have ho1 : ∀ x, x < i + 1 → m1 9 x = b2i (flatB G (gt C x)) := fun x hx => by
      by_cases c : x = i
      · rw [c]; exact b1
      · rw [o1 x c, mu_at_ne _ _ _ c]; exact ho x (by omega)
    have hf1 : Fx [7, 9] m0 m1 := (hf.mu (a := 9) (by decide)).trans (f1.mono (by decide))
    refine go hc 5 (fun K hK => ?_)
    conv => whnf
    refine ⟨_, _, hm.M, rfl, ?_⟩
    conv => whnf
    refine ⟨_, _, hm.B9, ixv (k := i) ((rfl : nI (i) = nI (i))) (by omega) (Nat.le_of_ble_eq_true rfl), ?_⟩
    rw [ixc (k := i) ((rfl : nI (i) = nI (i))) (by omega)]
    conv => whnf
    cases hb : flatB G (gt C i) with
    | false =>
      rw [hb] at hR b1
      have hR : fl2 C G n (i + 1) f dm = R := hR
      refine ⟨fun c_ => ?_, fun c_ => absurd (by unfold mI; rw [b1]; rfl) c_⟩
      conv => whnf
      refine hK _ _ _ _ _ _ (go hc 1 (fun K hK => ?_))
      conv => whnf
      try simp only [nI_1]
      refine hK _ _ _ _ _ _ (Runs.less hc [0, 1, 2, 3] rfl rfl rfl rfl (next m1 h1 f dm hm ho1 hf1 (fun j hj => ⟨by have := (hff j hj).1; omega, (hff j hj).2⟩) hR))
    | true =>
      rw [hb] at hR b1
      refine ⟨fun c_ => absurd c_ (by unfold mI; rw [b1]; decide), fun c_ => ?_⟩
      conv => whnf
      refine hK _ _ _ _ _ _ (go hc 2 (fun K hK => ?_))
      conv => whnf
      cases f with
      | none =>
        have hR : fl2 C G n (i + 1) (some i) 1 = R := hR
        refine ⟨fun c_ => absurd c_ (by decide), fun c_ => ?_⟩
        conv => whnf
        refine hK _ _ _ _ _ _ (go hc 5 (fun K hK => ?_))
        conv => whnf
        try simp only [nI_1]
        refine hK _ _ _ _ _ _ (Runs.less hc [0, 1, 2, 3] rfl rfl rfl rfl (next m1 h1 (some i) 1 hm ho1 hf1 (fun j hj => by injection hj with hj; subst hj; exact ⟨by omega, hb⟩) hR))
      | some j =>
        obtain ⟨hj1, hj2⟩ := hff j rfl
        have hR : fl2 C G n (i + 1) (some j) (if xp (gt C j) (gt C i) = (0, 0, 0) then dm else 0) = R := hR
        have hkg1 := h0.fx hf1 (by decide) (by decide) (by decide) (by decide)
        have ej := hkg1.k (show j < C.length by omega)
        have ei := hkg1.k hil
        refine ⟨fun c_ => ?_, fun c_ => absurd (show nI 0 ≤ nI j from nI_le (by omega) (by omega)) c_⟩
        conv => whnf
        refine hK _ _ _ _ _ _ (go hc 13 (fun K hK => ?_))
        conv => whnf
        refine ⟨_, _, hm.M, rfl, ?_⟩
        conv => whnf
        refine ⟨_, _, hm.M, rfl, ?_⟩
        conv => whnf
        refine ⟨_, hm.M, Nat.le_of_ble_eq_true rfl, ?_⟩
        conv => whnf
        refine callee hc (e_cross hm (a := 5) (b := 5) (i := 3 * j) (j := 3 * i) (by decide) (by decide) (by decide) (by decide) (im rfl rfl) (im rfl rfl) (show 3 * j + 2 < 1800 by omega) (show 3 * i + 2 < 1800 by omega) (by rw [ej, ei]; exact hx _ (gt_mem (by omega)) _ hki hj2 hb) ?_)
        intro m2 h2 hm v2 f2
        rw [ej, ei]
        conv => whnf
        have hf2 := hf1.trans (f2.mono (k := [7, 9]) (by decide))
        have ho2 : ∀ x, x < i + 1 → m2 9 x = b2i (flatB G (gt C x)) := fun x hx => by rw [f2 9 (by decide)]; exact ho1 x hx
        by_cases c : xp (gt C j) (gt C i) = (0, 0, 0)
        · rw [if_pos c] at hR
          rw [decide_eq_false (fun q => q c)]
          refine ⟨fun c_ => ?_, fun c_ => absurd (rfl) c_⟩
          conv => whnf
          try simp only [nI_1]
          refine hK _ _ _ _ _ _ (Runs.less hc [0, 1, 2, 3] rfl rfl rfl rfl (next m2 h2 (some j) dm hm ho2 hf2 (fun j' hj => by injection hj with hj; subst hj; exact ⟨by omega, hj2⟩) hR))
        · rw [if_neg c] at hR
          rw [decide_eq_true c]
          refine ⟨fun c_ => absurd c_ (by decide), fun c_ => ?_⟩
          conv => whnf
          refine hK _ _ _ _ _ _ (go hc 2 (fun K hK => ?_))
          conv => whnf
          try simp only [nI_1]
          refine hK _ _ _ _ _ _ (Runs.less hc [0, 1, 2, 3] rfl rfl rfl rfl (next m2 h2 (some j) 0 hm ho2 hf2 (fun j' hj => by injection hj with hj; subst hj; exact ⟨by omega, hj2⟩) hR))
theorem e_flatten (hm : MR m D Z h) (h0 : KG m C G) (hd : ∀ k ∈ C, ∀ g ∈ G, inL (dot k g)) (hx : ∀ k ∈ C, ∀ k' ∈ C, flatB G k = true → flatB G k' = true → inV (xp k k'))
    (hQ : ∀ m' h', MR m' D Z h' → (∀ x, x < C.length → m' 9 x = b2i (flatB G (gt C x))) → Fx [7, 9] m m' → Q (.inl (some (.int (nI (flaD C G))))) h') : wpC sc (d + 4) 108 [.ref 60] h Q := by
  refine enter rfl rfl (fun call hc => go hc 6 (fun K hK => ?_))
  conv => whnf
  try simp only [nI_1]
  refine hK _ _ _ _ _ _ (Runs.less hc [0, 1, 2, 3] rfl rfl rfl rfl (fl_out (Q := qth _ Q) hc h0 hd hx hQ C.length 0 m h none 2 (by omega) hm (fun x hx => by omega) Fx.refl (fun j hj => by cases hj) rfl))
end EFLAT
