/-! from constraints, from generators; slots and answers -/
def e0v : V3 := (1, 0, 0)
def nil5 : Nat → List V3 := fun _ => []
def ofC (C : List V3) : Nat → List V3 := if hpB (dualF (C ++ [(1, 0, 0)])) = true then stF C (dualF (C ++ [(1, 0, 0)])) nil5 else nil5
def ofG (G : List V3) : Nat → List V3 := if hpB G = true then stF (dualF G) G nil5 else nil5
def okM (M : Nat → List V3) : Prop := Mok M ∧ (M 0).length ≤ 16 ∧ (M 2).length ≤ 16
def okC2 (C : List V3) : Prop := (∀ v ∈ C, bdV 2700 v) ∧ C.length ≤ 598 ∧ (dualF (C ++ [(1, 0, 0)])).length ≤ 598 ∧ (hpB (dualF (C ++ [(1, 0, 0)])) = true → okSt C (dualF (C ++ [(1, 0, 0)])) nil5) ∧ okM (ofC C)
def okG2 (G : List V3) : Prop := (∀ v ∈ G, bdV 2700 v) ∧ G.length ≤ 600 ∧ (hpB G = true → (dualF G).length ≤ 598 ∧ okSt (dualF G) G nil5) ∧ okM (ofG G)
def upT (T : Tab) (s : Nat) (M : Nat → List V3) : Tab := if fltF M = 0 then stT T s M else T
def drT (T : Tab) (s : Nat) : Tab := fun s' k => if s' = s then [] else T s' k
theorem hpB_ne {G : List V3} (h : hpB G = true) : 0 < G.length := by
  cases G with
  | nil => cases h
  | cons a l => simp
theorem Mk_nil {m : MM} (h : ∀ k, k < 5 → m 10 k = 0) : Mk m nil5 := fun k hk => ⟨by rw [h k hk]; rfl, fun i hi => absurd hi (Nat.not_lt_zero _), by unfold nil5; simp⟩
section EOPS
variable {sc : Scr} {d : Nat} {m : MM} {D Z h : PH} {Q : Out → PH → Prop} {C G : List V3} {T : Tab}
theorem e_ofC (hm : MR m D Z h) {s : Nat} {X : Int32} (hX : X = nI s) (hs : s < 4) (hC : RW m 5 0 C) (hkn : m 15 0 = (C.length : Int)) (hmade : ∀ k, k < 5 → m 10 k = 0) (hT : Tb m T) (hok : okC2 C)
    (hQ : ∀ m' h', MR m' D Z h' → Tb m' (upT T s (ofC C)) → Fx [2, 3, 4, 5, 6, 7, 8, 9, 10, 11, 14, 16] m m' → Q (.inl (some (.int (nI (fltF (ofC C)))))) h') : wpC sc (d + 7) 122 [.ref 60, .int X] h Q := by
  subst hX
  obtain ⟨hb, hl, hd, hst, hMo, hm0, hm2⟩ := hok
  have n15 : ∀ {call : Callee}, call = wpC sc (d + 6) → ∀ m' h', MR m' D Z h' → Mk m' (ofC C) → Fx [4, 5, 6, 7, 8, 9, 10, 11, 14, 16] m m' → Runs (d + 6) call sc m_X4_ofConstraints (qth (mTh m_X4_ofConstraints) Q) 15 [(0, .ref 60), (1, .int (nI s))] [] h' 0 0 := by
    intro call hc m' h' hm hM hf
    refine go hc 4 (fun K hK => ?_)
    conv => whnf
    refine ⟨_, hm.M, Nat.le_of_ble_eq_true rfl, ?_⟩
    conv => whnf
    refine callee hc (e_store hm rfl hs hM hMo (hT.fx hf (by decide) (by decide)) hm0 hm2 ?_)
    intro m3 h3 hm T3 f3
    conv => whnf
    exact hQ m3 h3 hm T3 ((hf.mono (by decide)).trans (f3.mono (by decide)))
  unfold ofC at n15
  generalize hg : dualF (C ++ [(1, 0, 0)]) = g at *
  refine enter rfl rfl (fun call hc => go hc 5 (fun K hK => ?_))
  conv => whnf
  refine ⟨_, hm.M, Nat.le_of_ble_eq_true rfl, ?_⟩
  conv => whnf
  refine callee hc (e_toGenerators hm hC hkn (by omega) hb (by rw [hg]; exact hd) ?_)
  intro m1 h1 hm r1 n1 c1 f1 k1
  rw [hg] at r1 n1 k1
  conv => whnf
  refine ⟨_, hm.M, Nat.le_of_ble_eq_true rfl, ?_⟩
  conv => whnf
  refine callee hc (e_hasPoint hm r1 n1 (by omega) (fun x hx => ((k1 x hx).1).inL (by decide)) ?_)
  conv => whnf
  have hm0' : Mk m1 nil5 := Mk_nil (fun k hk => by rw [f1 10 (by decide)]; exact hmade k hk)
  cases hp : hpB g with
  | false =>
    rw [hp] at n15
    refine ⟨fun c_ => ?_, fun c_ => absurd (rfl) c_⟩
    conv => whnf
    refine hK _ _ _ _ _ _ (n15 hc m1 h1 hm hm0' (f1.mono (by decide)))
  | true =>
    rw [hp] at n15
    have kg : KG m1 C g := ⟨c1, by rw [f1 15 (by decide)]; exact hkn, by omega, r1, n1, by omega⟩
    refine ⟨fun c_ => absurd c_ (by decide), fun c_ => ?_⟩
    conv => whnf
    refine hK _ _ _ _ _ _ (go hc 2 (fun K hK => ?_))
    conv => whnf
    refine ⟨_, hm.M, Nat.le_of_ble_eq_true rfl, ?_⟩
    conv => whnf
    refine callee hc (e_settle hm kg (hst hp) hm0' ?_)
    intro m2 h2 hm M2 f2
    conv => whnf
    refine hK _ _ _ _ _ _ (n15 hc m2 h2 hm M2 ((f1.mono (by decide)).trans (f2.mono (by decide))))
theorem e_ofG (hm : MR m D Z h) {s : Nat} {X : Int32} (hX : X = nI s) (hs : s < 4) (hG : RW m 4 0 G) (hgn : m 14 0 = (G.length : Int)) (hmade : ∀ k, k < 5 → m 10 k = 0) (hT : Tb m T) (hok : okG2 G)
    (hQ : ∀ m' h', MR m' D Z h' → Tb m' (upT T s (ofG G)) → Fx [2, 3, 4, 5, 6, 7, 8, 9, 10, 11, 15, 16] m m' → Q (.inl (some (.int (nI (fltF (ofG G)))))) h') : wpC sc (d + 7) 123 [.ref 60, .int X] h Q := by
  subst hX
  obtain ⟨hb, hl, hst, hMo, hm0, hm2⟩ := hok
  have n15 : ∀ {call : Callee}, call = wpC sc (d + 6) → ∀ m' h', MR m' D Z h' → Mk m' (ofG G) → Fx [4, 5, 6, 7, 8, 9, 10, 11, 15, 16] m m' → Runs (d + 6) call sc m_X4_ofGenerators (qth (mTh m_X4_ofGenerators) Q) 15 [(0, .ref 60), (1, .int (nI s))] [] h' 0 0 := by
    intro call hc m' h' hm hM hf
    refine go hc 4 (fun K hK => ?_)
    conv => whnf
    refine ⟨_, hm.M, Nat.le_of_ble_eq_true rfl, ?_⟩
    conv => whnf
    refine callee hc (e_store hm rfl hs hM hMo (hT.fx hf (by decide) (by decide)) hm0 hm2 ?_)
    intro m3 h3 hm T3 f3
    conv => whnf
    exact hQ m3 h3 hm T3 ((hf.mono (by decide)).trans (f3.mono (by decide)))
  unfold ofG at n15
  have hm0' := Mk_nil hmade
  refine enter rfl rfl (fun call hc => go hc 3 (fun K hK => ?_))
  conv => whnf
  refine ⟨_, hm.M, Nat.le_of_ble_eq_true rfl, ?_⟩
  conv => whnf
  refine callee hc (e_hasPoint hm hG hgn hl (fun x hx => ((hb x hx).1).inL (by decide)) ?_)
  conv => whnf
  cases hp : hpB G with
  | false =>
    rw [hp] at n15
    refine ⟨fun c_ => ?_, fun c_ => absurd (rfl) c_⟩
    conv => whnf
    refine hK _ _ _ _ _ _ (n15 hc m h hm hm0' Fx.refl)
  | true =>
    rw [hp] at n15
    obtain ⟨hd, hs'⟩ := hst hp
    refine ⟨fun c_ => absurd c_ (by decide), fun c_ => ?_⟩
    conv => whnf
    refine hK _ _ _ _ _ _ (go hc 4 (fun K hK => ?_))
    conv => whnf
    refine ⟨_, hm.M, Nat.le_of_ble_eq_true rfl, ?_⟩
    conv => whnf
    refine callee hc (e_toConstraints hm hG hgn (hpB_ne hp) hl hb hd ?_)
    intro m1 h1 hm r1 n1 f1 k1
    conv => whnf
    refine ⟨_, hm.M, Nat.le_of_ble_eq_true rfl, ?_⟩
    conv => whnf
    refine callee hc (e_settle hm (⟨r1, n1, by omega, hG.eq (f1 4 (by decide)), by rw [f1 14 (by decide)]; exact hgn, hl⟩ : KG m1 (dualF G) G) hs' (Mk_nil (fun k hk => by rw [f1 10 (by decide)]; exact hmade k hk)) ?_)
    intro m2 h2 hm M2 f2
    conv => whnf
    refine hK _ _ _ _ _ _ (n15 hc m2 h2 hm M2 ((f1.mono (by decide)).trans (f2.mono (by decide))))
theorem e_drop (hm : MR m D Z h) {s : Nat} {X : Int32} (hX : X = nI s) (hs : s < 4) (hT : Tb m T) (hQ : ∀ m' h', MR m' D Z h' → Tb m' (drT T s) → Fx [2] m m' → Q (.inl none) h') : wpC sc (d + 1) 124 [.ref 60, .int X] h Q := by
  subst hX
  refine enter rfl rfl (fun call hc => go hc 5 (fun K hK => ?_))
  conv => whnf
  refine ⟨fun c_ => absurd c_ (by decide), fun c_ => ?_⟩
  conv => whnf
  refine hK _ _ _ _ _ _ (go hc 14 (fun K hK => ?_))
  conv => whnf
  refine ⟨_, _, hm.M, rfl, ?_⟩
  conv => whnf
  refine ⟨_, _, hm.I2, ixv (k := ((5) * (s)) + (0)) (ia (im ((rfl : (5 : Int32) = nI 5)) ((rfl : nI (s) = nI (s)))) ((rfl : (0 : Int32) = nI 0))) (by omega) (Nat.le_of_ble_eq_true rfl), ?_⟩
  rw [ixc (k := ((5) * (s)) + (0)) (ia (im ((rfl : (5 : Int32) = nI 5)) ((rfl : nI (s) = nI (s)))) ((rfl : (0 : Int32) = nI 0))) (by omega)]
  replace hm := hm.sI (a := 2) (i := ((5) * (s)) + (0)) (by decide) ((rfl : Int32.ofInt 0 = Int32.ofInt 0))
  conv => whnf
  refine ⟨fun c_ => absurd c_ (by decide), fun c_ => ?_⟩
  conv => whnf
  refine hK _ _ _ _ _ _ (go hc 14 (fun K hK => ?_))
  conv => whnf
  refine ⟨_, _, hm.M, rfl, ?_⟩
  conv => whnf
  refine ⟨_, _, hm.I2, ixv (k := ((5) * (s)) + (0 + 1)) (ia (im ((rfl : (5 : Int32) = nI 5)) ((rfl : nI (s) = nI (s)))) (ia ((rfl : (0 : Int32) = nI 0)) (rfl : (1 : Int32) = nI 1))) (by omega) (Nat.le_of_ble_eq_true rfl), ?_⟩
  rw [ixc (k := ((5) * (s)) + (0 + 1)) (ia (im ((rfl : (5 : Int32) = nI 5)) ((rfl : nI (s) = nI (s)))) (ia ((rfl : (0 : Int32) = nI 0)) (rfl : (1 : Int32) = nI 1))) (by omega)]
  replace hm := hm.sI (a := 2) (i := ((5) * (s)) + (0 + 1)) (by decide) ((rfl : Int32.ofInt 0 = Int32.ofInt 0))
  conv => whnf
  refine ⟨fun c_ => absurd c_ (by decide), fun c_ => ?_⟩
  conv => whnf
  refine hK _ _ _ _ _ _ (go hc 14 (fun K hK => ?_))
  conv => whnf
  refine ⟨_, _, hm.M, rfl, ?_⟩
  conv => whnf
  refine ⟨_, _, hm.I2, ixv (k := ((5) * (s)) + (0 + 1 + 1)) (ia (im ((rfl : (5 : Int32) = nI 5)) ((rfl : nI (s) = nI (s)))) (ia (ia ((rfl : (0 : Int32) = nI 0)) (rfl : (1 : Int32) = nI 1)) (rfl : (1 : Int32) = nI 1))) (by omega) (Nat.le_of_ble_eq_true rfl), ?_⟩
  rw [ixc (k := ((5) * (s)) + (0 + 1 + 1)) (ia (im ((rfl : (5 : Int32) = nI 5)) ((rfl : nI (s) = nI (s)))) (ia (ia ((rfl : (0 : Int32) = nI 0)) (rfl : (1 : Int32) = nI 1)) (rfl : (1 : Int32) = nI 1))) (by omega)]
  replace hm := hm.sI (a := 2) (i := ((5) * (s)) + (0 + 1 + 1)) (by decide) ((rfl : Int32.ofInt 0 = Int32.ofInt 0))
  conv => whnf
  refine ⟨fun c_ => absurd c_ (by decide), fun c_ => ?_⟩
  conv => whnf
  refine hK _ _ _ _ _ _ (go hc 14 (fun K hK => ?_))
  conv => whnf
  refine ⟨_, _, hm.M, rfl, ?_⟩
  conv => whnf
  refine ⟨_, _, hm.I2, ixv (k := ((5) * (s)) + (0 + 1 + 1 + 1)) (ia (im ((rfl : (5 : Int32) = nI 5)) ((rfl : nI (s) = nI (s)))) (ia (ia (ia ((rfl : (0 : Int32) = nI 0)) (rfl : (1 : Int32) = nI 1)) (rfl : (1 : Int32) = nI 1)) (rfl : (1 : Int32) = nI 1))) (by omega) (Nat.le_of_ble_eq_true rfl), ?_⟩
  rw [ixc (k := ((5) * (s)) + (0 + 1 + 1 + 1)) (ia (im ((rfl : (5 : Int32) = nI 5)) ((rfl : nI (s) = nI (s)))) (ia (ia (ia ((rfl : (0 : Int32) = nI 0)) (rfl : (1 : Int32) = nI 1)) (rfl : (1 : Int32) = nI 1)) (rfl : (1 : Int32) = nI 1))) (by omega)]
  replace hm := hm.sI (a := 2) (i := ((5) * (s)) + (0 + 1 + 1 + 1)) (by decide) ((rfl : Int32.ofInt 0 = Int32.ofInt 0))
  conv => whnf
  refine ⟨fun c_ => absurd c_ (by decide), fun c_ => ?_⟩
  conv => whnf
  refine hK _ _ _ _ _ _ (go hc 14 (fun K hK => ?_))
  conv => whnf
  refine ⟨_, _, hm.M, rfl, ?_⟩
  conv => whnf
  refine ⟨_, _, hm.I2, ixv (k := ((5) * (s)) + (0 + 1 + 1 + 1 + 1)) (ia (im ((rfl : (5 : Int32) = nI 5)) ((rfl : nI (s) = nI (s)))) (ia (ia (ia (ia ((rfl : (0 : Int32) = nI 0)) (rfl : (1 : Int32) = nI 1)) (rfl : (1 : Int32) = nI 1)) (rfl : (1 : Int32) = nI 1)) (rfl : (1 : Int32) = nI 1))) (by omega) (Nat.le_of_ble_eq_true rfl), ?_⟩
  rw [ixc (k := ((5) * (s)) + (0 + 1 + 1 + 1 + 1)) (ia (im ((rfl : (5 : Int32) = nI 5)) ((rfl : nI (s) = nI (s)))) (ia (ia (ia (ia ((rfl : (0 : Int32) = nI 0)) (rfl : (1 : Int32) = nI 1)) (rfl : (1 : Int32) = nI 1)) (rfl : (1 : Int32) = nI 1)) (rfl : (1 : Int32) = nI 1))) (by omega)]
  replace hm := hm.sI (a := 2) (i := ((5) * (s)) + (0 + 1 + 1 + 1 + 1)) (by decide) ((rfl : Int32.ofInt 0 = Int32.ofInt 0))
  conv => whnf
  refine ⟨fun c_ => ?_, fun c_ => absurd (by decide) c_⟩
  conv => whnf
  refine hK _ _ _ _ _ _ (go hc 1 (fun K hK => ?_))
  conv => whnf
  refine hQ _ _ hm (fun s' k hs' hk => ?_) (((((Fx.refl.mu (by decide)).mu (by decide)).mu (by decide)).mu (by decide)).mu (by decide))
  have o : ∀ x, (x < 5 * s ∨ 5 * s + 5 ≤ x) → mu (mu (mu (mu (mu m 2 (5 * s + 0) 0) 2 (5 * s + (0 + 1)) 0) 2 (5 * s + (0 + 1 + 1)) 0) 2 (5 * s + (0 + 1 + 1 + 1)) 0) 2 (5 * s + (0 + 1 + 1 + 1 + 1)) 0 2 x = m 2 x := fun x hx => by
    rw [mu_at_ne _ _ _ (by omega), mu_at_ne _ _ _ (by omega), mu_at_ne _ _ _ (by omega), mu_at_ne _ _ _ (by omega), mu_at_ne _ _ _ (by omega)]
  unfold drT
  by_cases e : s' = s
  · rw [if_pos e, e]
    refine ⟨?_, fun i hi => absurd hi (Nat.not_lt_zero _), by simp⟩
    show _ = (0 : Int)
    match k, hk with
    | 0, _ =>
      rw [mu_at_ne _ _ _ (by omega), mu_at_ne _ _ _ (by omega), mu_at_ne _ _ _ (by omega), mu_at_ne _ _ _ (by omega)]
      exact mu_at _ _ _ _
    | 1, _ =>
      rw [mu_at_ne _ _ _ (by omega), mu_at_ne _ _ _ (by omega), mu_at_ne _ _ _ (by omega)]
      exact mu_at _ _ _ _
    | 2, _ =>
      rw [mu_at_ne _ _ _ (by omega), mu_at_ne _ _ _ (by omega)]
      exact mu_at _ _ _ _
    | 3, _ =>
      rw [mu_at_ne _ _ _ (by omega)]
      exact mu_at _ _ _ _
    | 4, _ => exact mu_at _ _ _ _
  · rw [if_neg e]
    obtain ⟨t1, t2, t3⟩ := hT s' k hs' hk
    exact ⟨by rw [o _ (by omega)]; exact t1, t2, t3⟩
theorem e_fail (hm : MR m D Z h) {n : Nat} {X : Int32} (hX : X = nI n) (hQ : ∀ m' h', MR m' D Z h' → m' 12 0 = (n : Int) → Fx [12] m m' → Q (.inl (some (.int 0))) h') : wpC sc (d + 1) 76 [.ref 60, .int X] h Q := by
  subst hX
  refine enter rfl rfl (fun call hc => go hc 5 (fun K hK => ?_))
  conv => whnf
  refine ⟨_, hm.M, Nat.le_of_ble_eq_true rfl, ?_⟩
  replace hm := hm.code (v := (n : Int)) rfl
  conv => whnf
  exact hQ _ _ hm (mu_at _ _ _ _) (Fx.refl.mu (by decide))
theorem e_thrown (hm : MR m D Z h) (hQ : Q (.inl (some (.int (mF m 12)))) h) : wpC sc (d + 1) 75 [.ref 60] h Q := by
  refine enter rfl rfl (fun call hc => go hc 3 (fun K hK => ?_))
  conv => whnf
  refine ⟨_, _, hm.M, rfl, ?_⟩
  conv => whnf
  exact hQ
def slotB (x : Int32) : Bool := decide (¬ (x < 0 ∨ ¬ x < 4))
theorem e_isSlot {x : Int32} (hQ : Q (.inl (some (.int (bI01 (slotB x))))) h) : wpC sc (d + 1) 77 [.int x] h Q := by
  rcases slot_cases x with hx | ⟨i, hi, rfl⟩
  · have e : slotB x = false := decide_eq_false (fun q => q hx)
    rw [e] at hQ
    have n13 : ∀ {call : Callee}, call = wpC sc d → Runs d call sc m_X4_isSlot (qth (mTh m_X4_isSlot) Q) 13 [(0, .int x)] [] h 0 0 := by
      intro call hc
      refine go hc 1 (fun K hK => ?_)
      conv => whnf
      refine hK _ _ _ _ _ _ ?_
      refine go hc 1 (fun K hK => ?_)
      conv => whnf
      exact ⟨Or.inl rfl, hQ⟩
    refine enter rfl rfl (fun call hc => go hc 2 (fun K hK => ?_))
    conv => whnf
    by_cases c1 : x < 0
    · refine ⟨fun c_ => ?_, fun c_ => absurd (c1) c_⟩
      conv => whnf
      refine hK _ _ _ _ _ _ (n13 hc)
    · refine ⟨fun c_ => absurd c_ (c1), fun c_ => ?_⟩
      conv => whnf
      refine hK _ _ _ _ _ _ (go hc 3 (fun K hK => ?_))
      conv => whnf
      have h4 : (4 : Int32) ≤ x := by
        unfold slB at hx
        rcases hx with q | q
        · exact absurd q c1
        · exact Int32.not_lt.mp q
      refine ⟨fun c_ => ?_, fun c_ => absurd (h4) c_⟩
      conv => whnf
      refine hK _ _ _ _ _ _ (n13 hc)
  · have hns : ¬ slB (nI i) := by
      unfold slB
      intro q
      rcases q with q | q
      · exact nI_nlt (a := i) (b := 0) (by omega) (by omega) q
      · exact q (nI_lt (a := i) (b := 4) hi (by decide))
    have e : slotB (nI i) = true := decide_eq_true hns
    rw [e] at hQ
    refine enter rfl rfl (fun call hc => go hc 2 (fun K hK => ?_))
    conv => whnf
    refine ⟨fun c_ => absurd c_ (fun q => nI_nlt (a := i) (b := 0) (by omega) (by omega) q), fun c_ => ?_⟩
    conv => whnf
    refine hK _ _ _ _ _ _ (go hc 3 (fun K hK => ?_))
    conv => whnf
    refine ⟨fun c_ => absurd c_ (fun q => nI_ge (a := i) (b := 4) hi (by decide) q), fun c_ => ?_⟩
    conv => whnf
    refine hK _ _ _ _ _ _ (go hc 2 (fun K hK => ?_))
    conv => whnf
    refine hK _ _ _ _ _ _ ?_
    refine go hc 1 (fun K hK => ?_)
    conv => whnf
    exact ⟨Or.inr rfl, hQ⟩
theorem e_answer (hm : MR m D Z h) {s f lg : Nat} {X F Lg : Int32} (hX : X = nI s) (hF : F = nI f) (hL : Lg = nI lg) (hs : s < 4) (hf3 : f < 3) (hlg : lg < 10) (hT : Tb m T)
    (hQ : ∀ m' h' (r : Int32), MR m' D Z h' → Fx [12] m m' → (f = 0 → r = dimI (T s 4) (T s 0) ∧ m' 12 0 = m 12 0) → (f ≠ 0 → r = 0 ∧ m' 12 0 = ((if f = 1 then lg else lg + 1 : Nat) : Int)) → Q (.inl (some (.int r))) h') : wpC sc (d + 4) 126 [.ref 60, .int X, .int F, .int Lg] h Q := by
  subst hF
  have n17 : ∀ {call : Callee}, call = wpC sc (d + 3) → ∀ Y : Int32, f ≠ 0 → Y = nI (if f = 1 then lg else lg + 1) → Runs (d + 3) call sc m_X4_answer (qth (mTh m_X4_answer) Q) 17 [(0, .ref 60), (1, .int X), (2, .int (nI f)), (3, .int Lg)] [.int Y, .ref 60] h 0 0 := by
    intro call hc Y hne hY
    refine go hc 2 (fun K hK => ?_)
    conv => whnf
    refine ⟨_, hm.M, Nat.le_of_ble_eq_true rfl, ?_⟩
    conv => whnf
    refine callee hc (e_fail hm hY ?_)
    intro m1 h1' hm c1 f1
    conv => whnf
    exact hQ m1 h1' 0 hm f1 (fun q => absurd q hne) (fun _ => ⟨rfl, c1⟩)
  refine enter rfl rfl (fun call hc => go hc 2 (fun K hK => ?_))
  conv => whnf
  by_cases c : f = 0
  · subst c
    refine ⟨fun c_ => ?_, fun c_ => absurd (rfl) c_⟩
    conv => whnf
    refine hK _ _ _ _ _ _ (go hc 4 (fun K hK => ?_))
    conv => whnf
    refine ⟨_, hm.M, Nat.le_of_ble_eq_true rfl, ?_⟩
    conv => whnf
    refine callee hc (e_dimOf hm hX hs hT ?_)
    conv => whnf
    exact hQ m h _ hm Fx.refl (fun _ => ⟨rfl, rfl⟩) (fun q => absurd rfl q)
  · refine ⟨fun c_ => absurd c_ (nI_ne0 (by omega) (by omega)), fun c_ => ?_⟩
    conv => whnf
    refine hK _ _ _ _ _ _ (go hc 4 (fun K hK => ?_))
    conv => whnf
    by_cases c1 : f = 1
    · refine ⟨fun c_ => ?_, fun c_ => absurd (by rw [c1]; rfl) c_⟩
      conv => whnf
      refine hK _ _ _ _ _ _ (go hc 2 (fun K hK => ?_))
      conv => whnf
      try simp only [nI_1]
      refine hK _ _ _ _ _ _ (Runs.less hc [0, 1, 2, 3] rfl rfl rfl rfl (n17 hc Lg c (by rw [if_pos c1]; exact hL)))
    · refine ⟨fun c_ => absurd c_ (fun q => c1 ((nI_eq (by omega) (by decide)).mp q)), fun c_ => ?_⟩
      conv => whnf
      refine hK _ _ _ _ _ _ (go hc 3 (fun K hK => ?_))
      conv => whnf
      try simp only [nI_1]
      refine hK _ _ _ _ _ _ (Runs.less hc [0, 1, 2, 3] rfl rfl rfl rfl (n17 hc (Lg + 1) c (by rw [if_neg c1, hL, nI_1])))
end EOPS
