/-! THE REFERENCE's PUBLIC METHODS -/
/-- tables, numbers, how many are said, whether a greatest value is kept, and it -/
abbrev RSt : Type := Tab × (Nat → Int) × Nat × Bool × Int × Int
/-- the code of what is thrown, the answer, what it is then -/
abbrev RR : Type := Nat × Int32 × RSt
def RZ (m : MM) (a : RSt) : Prop := Tb m a.1 ∧ (∀ i, i < 6 → m 1 i = a.2.1 i) ∧ m 13 0 = (a.2.2.1 : Int) ∧ m 17 0 = b2i a.2.2.2.1 ∧ m 18 0 = a.2.2.2.2.1 ∧ m 19 0 = a.2.2.2.2.2
def okS2 (a : RSt) : Prop := okT a.1 ∧ (∀ i, i < 6 → bdI 30 (a.2.1 i)) ∧ a.2.2.1 ≤ 6
theorem RZ.fx {m m' : MM} {a : RSt} {fr : List Nat} (h : RZ m a) (hf : Fx fr m m') (h1 : 1 ∉ fr) (h2 : 2 ∉ fr) (h3 : 3 ∉ fr) (h13 : 13 ∉ fr) (h17 : 17 ∉ fr) (h18 : 18 ∉ fr) (h19 : 19 ∉ fr) : RZ m' a :=
  ⟨h.1.fx hf h2 h3, fun i hi => by rw [hf 1 h1]; exact h.2.1 i hi, by rw [hf 13 h13]; exact h.2.2.1, by rw [hf 17 h17]; exact h.2.2.2.1, by rw [hf 18 h18]; exact h.2.2.2.2.1, by rw [hf 19 h19]; exact h.2.2.2.2.2⟩
/-- the tables alone change -/
theorem RZ.tab {m m' : MM} {a : RSt} {fr : List Nat} {T : Tab} (h : RZ m a) (hT : Tb m' T) (hf : Fx fr m m') (h1 : 1 ∉ fr) (h13 : 13 ∉ fr) (h17 : 17 ∉ fr) (h18 : 18 ∉ fr) (h19 : 19 ∉ fr) : RZ m' (T, a.2) :=
  ⟨hT, fun i hi => by rw [hf 1 h1]; exact h.2.1 i hi, by rw [hf 13 h13]; exact h.2.2.1, by rw [hf 17 h17]; exact h.2.2.2.1, by rw [hf 18 h18]; exact h.2.2.2.2.1, by rw [hf 19 h19]; exact h.2.2.2.2.2⟩
theorem RZ.F1 {m : MM} {a : RSt} (h : RZ m a) : mF m 13 = nI a.2.2.1 := mF_of h.2.2.1
theorem RZ.num {m : MM} {a : RSt} (h : RZ m a) {i : Nat} (hi : i < 6) : mI m 1 i = Int32.ofInt (a.2.1 i) := by unfold mI; rw [h.2.1 i hi]
theorem RZ.code {m : MM} {a : RSt} (h : RZ m a) (v : Int) : RZ (mu m 12 0 v) a := h.fx (fr := [12]) (Fx.refl.mu (by decide)) (by decide) (by decide) (by decide) (by decide) (by decide) (by decide) (by decide)
theorem RZ.said {m : MM} {a : RSt} (h : RZ m a) : RZ (mu m 13 0 0) (a.1, a.2.1, 0, a.2.2.2) := ⟨fun s k hs hk => h.1 s k hs hk, fun i hi => h.2.1 i hi, rfl, h.2.2.2.1, h.2.2.2.2.1, h.2.2.2.2.2⟩
def s0 (a : RSt) : RSt := (a.1, a.2.1, 0, a.2.2.2)
def rSay (a : RSt) (x : Int32) : RR := if x < -30 ∨ ¬ x ≤ 30 then (1, 0, a) else if a.2.2.1 = 6 then (2, 0, a) else (0, nI (a.2.2.1 + 1), (a.1, va_up a.2.1 a.2.2.1 x.toInt, a.2.2.1 + 1, a.2.2.2))
def setT (T : Tab) (i : Nat) (p : Bool) : Tab := if p = true then upT (drT T i) i (ofC []) else drT T i
def rSet (a : RSt) (x : Int32) (p : Bool) : RR := if slotB x = false then (1, 0, a) else (0, 0, (setT a.1 x.toNatClampNeg p, a.2))
/-- the answer behind a change -/
def rFin (a : RSt) (i : Nat) (M : Nat → List V3) (lg : Nat) (sd : Bool) : RR := if fltF M = 0 then (0, dimI (stT a.1 i M i 4) (stT a.1 i M i 0), if sd = true then (stT a.1 i M, a.2.1, 0, a.2.2.2) else (stT a.1 i M, a.2)) else (if fltF M = 1 then lg else lg + 1, 0, a)
def num3 (a : RSt) : V3 := (a.2.1 0, a.2.1 1, a.2.1 2)
def cstL (a : RSt) (i : Nat) (b : Bool) : List V3 := acF (cnL [] a.1 i) (num3 a) b
def rCst (a : RSt) (x : Int32) (b : Bool) : RR := if slotB x = false then (1, 0, a) else if a.2.2.1 ≠ 3 then (2, 0, a) else if a.1 x.toNatClampNeg 4 = [] then (0, -1, s0 a) else rFin a x.toNatClampNeg (ofC (cstL a x.toNatClampNeg b)) 3 true
section EPUB
variable {sc : Scr} {d : Nat} {m : MM} {D Z h : PH} {Q : Out → PH → Prop} {a : RSt}
theorem e_say (hm : MR m D Z h) (hr : RZ m a) (hok : okS2 a) {x : Int32} (hQ : ∀ m' h', MR m' D Z h' → RZ m' (rSay a x).2.2 → m' 12 0 = ((rSay a x).1 : Int) → Q (.inl (some (.int (rSay a x).2.1))) h') : wpC sc (d + 2) 78 [.ref 60, .int x] h Q := by
  have hs := hok.2.2
  unfold rSay at hQ
  have n17 : ∀ {call : Callee}, call = wpC sc (d + 1) → ∀ m1 h1, MR m1 D Z h1 → RZ m1 a → (x < -30 ∨ ¬ x ≤ 30) → Runs (d + 1) call sc m_X4_say (qth (mTh m_X4_say) Q) 17 [(0, .ref 60), (1, .int x)] [] h1 0 0 := by
    intro call hc m1 h1 hm hr q
    rw [if_pos q] at hQ
    refine go hc 4 (fun K hK => ?_)
    conv => whnf
    refine ⟨_, hm.M, Nat.le_of_ble_eq_true rfl, ?_⟩
    conv => whnf
    refine callee hc (e_fail hm (n := 1) rfl ?_)
    intro m2 h2 hm c2 f2
    conv => whnf
    exact hQ m2 h2 hm (hr.fx f2 (by decide) (by decide) (by decide) (by decide) (by decide) (by decide) (by decide)) c2
  refine enter rfl rfl (fun call hc => go hc 6 (fun K hK => ?_))
  conv => whnf
  refine ⟨_, hm.M, Nat.le_of_ble_eq_true rfl, ?_⟩
  replace hm := hm.code (v := 0) rfl
  replace hr := hr.code 0
  have z0 : mu m 12 0 0 12 0 = 0 := mu_at _ _ _ _
  generalize mu m 12 0 0 = m1 at *
  conv => whnf
  by_cases c1 : x < -30
  · refine ⟨fun c_ => ?_, fun c_ => absurd (c1) c_⟩
    conv => whnf
    refine hK _ _ _ _ _ _ (n17 hc m1 _ hm hr (Or.inl c1))
  · refine ⟨fun c_ => absurd c_ (c1), fun c_ => ?_⟩
    conv => whnf
    refine hK _ _ _ _ _ _ (go hc 3 (fun K hK => ?_))
    conv => whnf
    by_cases c2 : x ≤ 30
    · rw [if_neg (fun q => q.elim c1 (fun q => q c2))] at hQ
      have F1 := hr.F1
      refine ⟨fun c_ => ?_, fun c_ => absurd (c2) c_⟩
      conv => whnf
      refine hK _ _ _ _ _ _ ?_
      refine go hc 4 (fun K hK => ?_)
      conv => whnf
      refine ⟨_, _, hm.M, rfl, ?_⟩
      rw [F1]
      conv => whnf
      by_cases c3 : a.2.2.1 = 6
      · rw [if_pos c3] at hQ
        refine ⟨fun c_ => ?_, fun c_ => absurd (by rw [c3]; rfl) c_⟩
        conv => whnf
        refine hK _ _ _ _ _ _ (go hc 4 (fun K hK => ?_))
        conv => whnf
        refine ⟨_, hm.M, Nat.le_of_ble_eq_true rfl, ?_⟩
        conv => whnf
        refine callee hc (e_fail hm (n := 2) rfl ?_)
        intro m2 h2 hm c2 f2
        conv => whnf
        exact hQ m2 h2 hm (hr.fx f2 (by decide) (by decide) (by decide) (by decide) (by decide) (by decide) (by decide)) c2
      · rw [if_neg c3] at hQ
        have ex : x = Int32.ofInt x.toInt := (Int32.ofInt_toInt x).symm
        refine ⟨fun c_ => absurd c_ ((fun q => c3 ((nI_eq (by omega) (by decide)).mp q))), fun c_ => ?_⟩
        conv => whnf
        refine hK _ _ _ _ _ _ (go hc 15 (fun K hK => ?_))
        conv => whnf
        refine ⟨_, _, hm.M, rfl, ?_⟩
        conv => whnf
        refine ⟨_, _, hm.M, rfl, ?_⟩
        rw [F1]
        conv => whnf
        refine ⟨_, _, hm.I1, ixv (k := a.2.2.1) ((rfl : nI (a.2.2.1) = nI (a.2.2.1))) (by omega) (Nat.le_of_ble_eq_true rfl), ?_⟩
        rw [ixc (k := a.2.2.1) ((rfl : nI (a.2.2.1) = nI (a.2.2.1))) (by omega)]
        replace hm := hm.sI (a := 1) (i := a.2.2.1) (by decide) (ex)
        generalize hg : mu m1 1 a.2.2.1 x.toInt = m2 at hm
        replace F1 : mF m2 13 = nI a.2.2.1 := by rw [← hg]; exact F1
        conv => whnf
        refine ⟨_, _, hm.M, rfl, ?_⟩
        rw [F1]
        conv => whnf
        refine ⟨_, hm.M, Nat.le_of_ble_eq_true rfl, ?_⟩
        replace hm := hm.said (v := ((a.2.2.1 + 1 : Nat) : Int)) (by rw [nI_ofI, ← nI_1])
        have F1 : mF (mu m2 13 0 ((a.2.2.1 + 1 : Nat) : Int)) 13 = nI (a.2.2.1 + 1) := mF_of (mu_at _ _ _ _)
        conv => whnf
        refine ⟨_, _, hm.M, rfl, ?_⟩
        rw [F1]
        conv => whnf
        refine hQ _ _ hm ⟨?_, fun i hi => ?_, mu_at _ _ _ _, ?_, ?_, ?_⟩ ?_
        · rw [← hg]; exact hr.1
        · show m2 1 i = va_up a.2.1 a.2.2.1 x.toInt i
          rw [← hg, mu_self]
          by_cases c : i = a.2.2.1
          · rw [c, va_up_self, va_up_self]
          · rw [va_up_ne _ _ c, va_up_ne _ _ c]; exact hr.2.1 i hi
        · rw [← hg]; exact hr.2.2.2.1
        · rw [← hg]; exact hr.2.2.2.2.1
        · rw [← hg]; exact hr.2.2.2.2.2
        · rw [← hg]; exact z0
    · refine ⟨fun c_ => absurd c_ (c2), fun c_ => ?_⟩
      conv => whnf
      refine hK _ _ _ _ _ _ (n17 hc m1 _ hm hr (Or.inr c2))
theorem e_hush (hm : MR m D Z h) (hr : RZ m a) (hQ : ∀ m' h', MR m' D Z h' → RZ m' (s0 a) → m' 12 0 = 0 → Q (.inl none) h') : wpC sc (d + 1) 79 [.ref 60] h Q := by
  refine enter rfl rfl (fun call hc => go hc 7 (fun K hK => ?_))
  conv => whnf
  refine ⟨_, hm.M, Nat.le_of_ble_eq_true rfl, ?_⟩
  replace hm := hm.code (v := 0) rfl
  replace hr := hr.code 0
  conv => whnf
  refine ⟨_, hm.M, Nat.le_of_ble_eq_true rfl, ?_⟩
  replace hm := hm.said (v := 0) rfl
  replace hr := hr.said
  conv => whnf
  exact hQ _ _ hm hr rfl
theorem slot_nat {x : Int32} (h : slotB x = true) : ∃ i, i < 4 ∧ x = nI i ∧ x.toNatClampNeg = i := by
  rcases slot_cases x with q | ⟨i, hi, rfl⟩
  · exact absurd (show x < 0 ∨ ¬ x < 4 from q) (of_decide_eq_true (p := ¬ (x < 0 ∨ ¬ x < 4)) h)
  · exact ⟨i, hi, rfl, nI_clamp (by omega)⟩
theorem sl01 {b : Bool} : bI01 b = 0 ↔ b = false := by cases b <;> simp [bI01]
theorem e_set (hm : MR m D Z h) (hr : RZ m a) {x : Int32} {p : Bool} (hok : okC2 []) (hQ : ∀ m' h', MR m' D Z h' → RZ m' (rSet a x p).2.2 → m' 12 0 = ((rSet a x p).1 : Int) → Q (.inl none) h') : wpC sc (d + 8) 125 [.ref 60, .int x, .int (bI01 p)] h Q := by
  unfold rSet at hQ
  cases hx : slotB x with
  | false =>
    rw [hx] at hQ
    have hQ : ∀ m' h', MR m' D Z h' → RZ m' a → m' 12 0 = ((1 : Nat) : Int) → Q (.inl none) h' := hQ
    refine enter rfl rfl (fun call hc => go hc 4 (fun K hK => ?_))
    conv => whnf
    refine ⟨Nat.le_of_ble_eq_true rfl, ?_⟩
    conv => whnf
    refine callee hc (e_isSlot ?_)
    rw [hx]
    conv => whnf
    refine ⟨fun c_ => ?_, fun c_ => absurd (rfl) c_⟩
    conv => whnf
    refine hK _ _ _ _ _ _ (go hc 1 (fun K hK => ?_))
    conv => whnf
    refine hK _ _ _ _ _ _ ?_
    refine go hc 4 (fun K hK => ?_)
    conv => whnf
    refine ⟨_, hm.M, Nat.le_of_ble_eq_true rfl, ?_⟩
    replace hm := hm.code (v := 1) rfl
    replace hr := hr.code 1
    conv => whnf
    refine ⟨_, _, hm.M, rfl, ?_⟩
    conv => whnf
    refine ⟨fun c_ => absurd c_ ((show ¬ Int32.ofInt 1 ≤ 0 by decide)), fun c_ => ?_⟩
    conv => whnf
    refine hK _ _ _ _ _ _ (go hc 1 (fun K hK => ?_))
    conv => whnf
    exact hQ _ _ hm hr rfl
  | true =>
    rw [hx] at hQ
    obtain ⟨i, hi, he, hn⟩ := slot_nat hx
    have hQ : ∀ m' h', MR m' D Z h' → RZ m' (setT a.1 x.toNatClampNeg p, a.2) → m' 12 0 = ((0 : Nat) : Int) → Q (.inl none) h' := hQ
    rw [hn] at hQ
    unfold setT at hQ
    refine enter rfl rfl (fun call hc => go hc 4 (fun K hK => ?_))
    conv => whnf
    refine ⟨Nat.le_of_ble_eq_true rfl, ?_⟩
    conv => whnf
    refine callee hc (e_isSlot ?_)
    rw [hx]
    conv => whnf
    refine ⟨fun c_ => absurd c_ (by decide), fun c_ => ?_⟩
    conv => whnf
    refine hK _ _ _ _ _ _ (go hc 2 (fun K hK => ?_))
    conv => whnf
    refine hK _ _ _ _ _ _ ?_
    refine go hc 4 (fun K hK => ?_)
    conv => whnf
    refine ⟨_, hm.M, Nat.le_of_ble_eq_true rfl, ?_⟩
    replace hm := hm.code (v := 0) rfl
    replace hr := hr.code 0
    conv => whnf
    refine ⟨_, _, hm.M, rfl, ?_⟩
    conv => whnf
    have z0 : mu m 12 0 0 12 0 = 0 := mu_at _ _ _ _
    refine ⟨fun c_ => ?_, fun c_ => absurd ((show Int32.ofInt 0 ≤ 0 by decide)) c_⟩
    conv => whnf
    refine hK _ _ _ _ _ _ (go hc 5 (fun K hK => ?_))
    conv => whnf
    refine ⟨_, hm.M, Nat.le_of_ble_eq_true rfl, ?_⟩
    conv => whnf
    refine callee hc (e_drop hm he hi hr.1 ?_)
    intro m2 h2 hm T2 f2
    conv => whnf
    have hr2 := hr.tab T2 f2 (by decide) (by decide) (by decide) (by decide) (by decide)
    have z2 : m2 12 0 = 0 := by rw [f2 12 (by decide)]; exact z0
    cases p with
    | false =>
      refine ⟨fun c_ => ?_, fun c_ => absurd (rfl) c_⟩
      conv => whnf
      refine hK _ _ _ _ _ _ (go hc 1 (fun K hK => ?_))
      conv => whnf
      exact hQ m2 h2 hm hr2 z2
    | true =>
      refine ⟨fun c_ => absurd c_ (by decide), fun c_ => ?_⟩
      conv => whnf
      refine hK _ _ _ _ _ _ (go hc 7 (fun K hK => ?_))
      conv => whnf
      refine ⟨_, hm.M, Nat.le_of_ble_eq_true rfl, ?_⟩
      conv => whnf
      refine callee hc (e_begin hm ?_)
      intro m3 h3 hm g3 k3 d3 f3
      conv => whnf
      refine ⟨_, hm.M, Nat.le_of_ble_eq_true rfl, ?_⟩
      conv => whnf
      refine callee hc (e_ofC (C := []) hm he hi (fun i hi => absurd hi (Nat.not_lt_zero _)) k3 d3 (T2.fx f3 (by decide) (by decide)) hok ?_)
      intro m4 h4 hm T4 f4
      conv => whnf
      exact hQ m4 h4 hm ((hr2.fx f3 (by decide) (by decide) (by decide) (by decide) (by decide) (by decide) (by decide)).tab T4 f4 (by decide) (by decide) (by decide) (by decide) (by decide)) (by rw [f4 12 (by decide), f3 12 (by decide)]; exact z2)
theorem upT_eq {T : Tab} {i : Nat} {M : Nat → List V3} (h : fltF M = 0) : upT T i M = stT T i M := if_pos h
theorem upT_ne {T : Tab} {i : Nat} {M : Nat → List V3} (h : fltF M ≠ 0) : upT T i M = T := if_neg h
theorem flt_lt (M : Nat → List V3) : fltF M < 3 := by
  unfold fltF
  split
  · omega
  · split <;> omega
theorem e_constrain (hm : MR m D Z h) (hr : RZ m a) (hok : okS2 a) {x : Int32} {b : Bool} (hC : ∀ i, i < 4 → a.1 i 4 ≠ [] → a.2.2.1 = 3 → okC2 (cstL a i b)) (hl : ∀ i, i < 4 → (cnL [] a.1 i).length ≤ 598)
    (hQ : ∀ m' h', MR m' D Z h' → RZ m' (rCst a x b).2.2 → m' 12 0 = ((rCst a x b).1 : Int) → Q (.inl (some (.int (rCst a x b).2.1))) h') : wpC sc (d + 8) 127 [.ref 60, .int x, .int (bI01 b)] h Q := by
  unfold rCst at hQ
  have hs6 := hok.2.2
  refine enter rfl rfl (fun call hc => go hc 6 (fun K hK => ?_))
  conv => whnf
  refine ⟨_, hm.M, Nat.le_of_ble_eq_true rfl, ?_⟩
  replace hm := hm.code (v := 0) rfl
  replace hr := hr.code 0
  have z0 : mu m 12 0 0 12 0 = 0 := mu_at _ _ _ _
  generalize mu m 12 0 0 = m1 at *
  conv => whnf
  refine ⟨Nat.le_of_ble_eq_true rfl, ?_⟩
  conv => whnf
  refine callee hc (e_isSlot ?_)
  conv => whnf
  cases hx : slotB x with
  | false =>
    rw [if_pos hx] at hQ
    refine ⟨fun c_ => ?_, fun c_ => absurd (rfl) c_⟩
    conv => whnf
    refine hK _ _ _ _ _ _ (go hc 4 (fun K hK => ?_))
    conv => whnf
    refine ⟨_, hm.M, Nat.le_of_ble_eq_true rfl, ?_⟩
    conv => whnf
    refine callee hc (e_fail hm (n := 1) rfl ?_)
    intro m2 h2 hm c2 f2
    conv => whnf
    exact hQ m2 h2 hm (hr.fx f2 (by decide) (by decide) (by decide) (by decide) (by decide) (by decide) (by decide)) c2
  | true =>
    rw [if_neg (by rw [hx]; decide)] at hQ
    obtain ⟨i, hi, he, hn⟩ := slot_nat hx
    subst he
    rw [hn] at hQ
    have F1 := hr.F1
    refine ⟨fun c_ => absurd c_ (by decide), fun c_ => ?_⟩
    conv => whnf
    refine hK _ _ _ _ _ _ ?_
    refine go hc 4 (fun K hK => ?_)
    conv => whnf
    refine ⟨_, _, hm.M, rfl, ?_⟩
    rw [F1]
    conv => whnf
    by_cases c3 : a.2.2.1 = 3
    · rw [if_neg (fun q => q c3)] at hQ
      -- the end
      have n83 : ∀ (m' : MM) (h' : PH) (T' : Tab) (f : Nat), MR m' D Z h' → RZ m' (T', a.2) → f < 3 → m' 12 0 = 0 → (f = 0 → ∀ m'' h'', MR m'' D Z h'' → RZ m'' (T', a.2.1, 0, a.2.2.2) → m'' 12 0 = 0 → Q (.inl (some (.int (dimI (T' i 4) (T' i 0))))) h'') → (f ≠ 0 → ∀ m'' h'', MR m'' D Z h'' → RZ m'' (T', a.2) → m'' 12 0 = ((if f = 1 then 3 else 3 + 1 : Nat) : Int) → Q (.inl (some (.int 0))) h'') →
          Runs (d + 7) call sc m_X4_constrain (qth (mTh m_X4_constrain) Q) 83 [(0, .ref 60), (1, .int (nI i)), (2, .int (bI01 b)), (3, .int (nI f))] [] h' 0 0 := by
        intro m' h' T' f hm hr' hf3 z' q0 q1
        refine go hc 2 (fun K hK => ?_)
        conv => whnf
        by_cases cf : f = 0
        · subst cf
          refine ⟨fun c_ => ?_, fun c_ => absurd (rfl) c_⟩
          conv => whnf
          refine hK _ _ _ _ _ _ (go hc 9 (fun K hK => ?_))
          conv => whnf
          refine ⟨_, hm.M, Nat.le_of_ble_eq_true rfl, ?_⟩
          replace hm := hm.said (v := 0) rfl
          replace hr' := hr'.said
          conv => whnf
          refine ⟨_, hm.M, Nat.le_of_ble_eq_true rfl, ?_⟩
          conv => whnf
          refine callee hc (e_answer hm (f := 0) (lg := 3) rfl rfl rfl hi (by omega) (by omega) hr'.1 ?_)
          intro m2 h2 r hm f2 a0 _
          obtain ⟨rfl, y2⟩ := a0 rfl
          conv => whnf
          exact q0 rfl m2 h2 hm (hr'.fx f2 (by decide) (by decide) (by decide) (by decide) (by decide) (by decide) (by decide)) (by rw [y2]; exact z')
        · refine ⟨fun c_ => absurd c_ (nI_ne0 (by omega) (by omega)), fun c_ => ?_⟩
          conv => whnf
          refine hK _ _ _ _ _ _ (go hc 6 (fun K hK => ?_))
          conv => whnf
          refine ⟨_, hm.M, Nat.le_of_ble_eq_true rfl, ?_⟩
          conv => whnf
          refine callee hc (e_answer hm (f := f) (lg := 3) rfl rfl rfl hi hf3 (by omega) hr'.1 ?_)
          intro m2 h2 r hm f2 _ a1
          obtain ⟨rfl, y2⟩ := a1 cf
          conv => whnf
          exact q1 cf m2 h2 hm (hr'.fx f2 (by decide) (by decide) (by decide) (by decide) (by decide) (by decide) (by decide)) y2
      refine ⟨fun c_ => ?_, fun c_ => absurd (by rw [c3]; rfl) c_⟩
      conv => whnf
      refine hK _ _ _ _ _ _ ?_
      refine go hc 6 (fun K hK => ?_)
      conv => whnf
      refine ⟨_, hm.M, Nat.le_of_ble_eq_true rfl, ?_⟩
      conv => whnf
      refine callee hc (e_isEmpty hm rfl hi (hr.1 i 4 hi (by omega)) ?_)
      conv => whnf
      by_cases ce : a.1 i 4 = []
      · rw [if_pos ce] at hQ
        rw [decide_eq_true ce]
        refine ⟨fun c_ => absurd c_ (by decide), fun c_ => ?_⟩
        conv => whnf
        refine hK _ _ _ _ _ _ (n83 m1 _ a.1 0 hm hr (by omega) z0 (fun _ m'' h'' hm'' hr'' z'' => ?_) (fun q => absurd rfl q))
        have := hQ m'' h'' hm'' hr'' z''
        unfold dimI
        rw [if_pos ce]
        exact this
      · rw [if_neg ce] at hQ
        have hcc := hC i hi ce c3
        have hll := hl i hi
        have q0 := hok.2.1 0 (by omega)
        have q1 := hok.2.1 1 (by omega)
        have q2 := hok.2.1 2 (by omega)
        unfold cstL at hcc hQ
        rw [decide_eq_false ce]
        refine ⟨fun c_ => ?_, fun c_ => absurd (rfl) c_⟩
        conv => whnf
        refine hK _ _ _ _ _ _ (go hc 27 (fun K hK => ?_))
        conv => whnf
        refine ⟨_, hm.M, Nat.le_of_ble_eq_true rfl, ?_⟩
        conv => whnf
        refine callee hc (e_begin hm ?_)
        intro m3 h3 hm g3 k3 d3 f3
        have hr3 := hr.fx f3 (by decide) (by decide) (by decide) (by decide) (by decide) (by decide) (by decide)
        conv => whnf
        refine ⟨_, hm.M, Nat.le_of_ble_eq_true rfl, ?_⟩
        conv => whnf
        refine callee hc (e_takeC (Kc := []) hm rfl hi hr3.1 hok.1 (fun i hi => absurd hi (Nat.not_lt_zero _)) k3 (by simp) ?_)
        intro m4 h4 hm r4 n4 f4
        have hr4 := hr3.fx f4 (by decide) (by decide) (by decide) (by decide) (by decide) (by decide) (by decide)
        conv => whnf
        refine ⟨_, _, hm.M, rfl, ?_⟩
        conv => whnf
        refine Or.inr ⟨_, _, hm.I1, ixv (k := 0) ((rfl : (0 : Int32) = nI 0)) (by omega) (Nat.le_of_ble_eq_true rfl), ?_⟩
        rw [ixc (k := 0) ((rfl : (0 : Int32) = nI 0)) (by omega)]
        conv => whnf
        refine ⟨_, _, hm.M, rfl, ?_⟩
        conv => whnf
        refine Or.inr ⟨_, _, hm.I1, ixv (k := 1) ((rfl : (1 : Int32) = nI 1)) (by omega) (Nat.le_of_ble_eq_true rfl), ?_⟩
        rw [ixc (k := 1) ((rfl : (1 : Int32) = nI 1)) (by omega)]
        conv => whnf
        refine ⟨_, _, hm.M, rfl, ?_⟩
        conv => whnf
        refine Or.inr ⟨_, _, hm.I1, ixv (k := 2) ((rfl : (2 : Int32) = nI 2)) (by omega) (Nat.le_of_ble_eq_true rfl), ?_⟩
        rw [ixc (k := 2) ((rfl : (2 : Int32) = nI 2)) (by omega)]
        conv => whnf
        refine ⟨_, hm.M, Nat.le_of_ble_eq_true rfl, ?_⟩
        conv => whnf
        refine callee hc (e_addC hm (num3 a) b (by rw [hr4.num (by omega)]; exact i32_l q0) (by rw [hr4.num (by omega)]; exact i32_l q1) (by rw [hr4.num (by omega)]; exact i32_l q2) ⟨bd30_in q0, bd30_in q1, bd30_in q2⟩ r4 n4 (by omega) ?_)
        intro m5 h5 hm r5 n5 f5
        have hr5 := hr4.fx f5 (by decide) (by decide) (by decide) (by decide) (by decide) (by decide) (by decide)
        conv => whnf
        refine ⟨_, hm.M, Nat.le_of_ble_eq_true rfl, ?_⟩
        conv => whnf
        refine callee hc (e_ofC hm rfl hi r5 n5 (fun k hk => by rw [f5 10 (by decide), f4 10 (by decide)]; exact d3 k hk) hr5.1 hcc ?_)
        intro m6 h6 hm T6 f6
        have hr6 := hr5.tab T6 f6 (by decide) (by decide) (by decide) (by decide) (by decide)
        conv => whnf
        have z6 : m6 12 0 = 0 := by rw [f6 12 (by decide), f5 12 (by decide), f4 12 (by decide), f3 12 (by decide)]; exact z0
        refine hK _ _ _ _ _ _ (n83 m6 h6 _ (fltF (ofC (acF (cnL [] a.1 i) (num3 a) b))) hm hr6 (flt_lt _) z6 (fun cf m'' h'' hm'' hr'' z'' => ?_) (fun cf m'' h'' hm'' hr'' z'' => ?_))
        · unfold rFin at hQ
          rw [if_pos cf, if_pos rfl] at hQ
          rw [upT_eq cf] at hr'' ⊢
          exact hQ m'' h'' hm'' hr'' z''
        · unfold rFin at hQ
          rw [if_neg cf] at hQ
          rw [upT_ne cf] at hr''
          exact hQ m'' h'' hm'' hr'' z''
    · rw [if_pos c3] at hQ
      refine ⟨fun c_ => absurd c_ ((fun q => c3 ((nI_eq (by omega) (by decide)).mp q))), fun c_ => ?_⟩
      conv => whnf
      refine hK _ _ _ _ _ _ (go hc 4 (fun K hK => ?_))
      conv => whnf
      refine ⟨_, hm.M, Nat.le_of_ble_eq_true rfl, ?_⟩
      conv => whnf
      refine callee hc (e_fail hm (n := 2) rfl ?_)
      intro m2 h2 hm c2 f2
      conv => whnf
      exact hQ m2 h2 hm (hr.fx f2 (by decide) (by decide) (by decide) (by decide) (by decide) (by decide) (by decide)) c2
end EPUB
