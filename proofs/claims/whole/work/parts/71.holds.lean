/-! holds, has, includes, maximum -/
def mxS (A B : Int) : List V3 → Bool → Int → Int → Nat × Int × Int
  | [], _, t, b => (2, t, b)
  | g :: r, f, t, b => if g.1 = 0 ∧ 0 < A * g.2.1 + B * g.2.2 then (1, t, b) else if g.1 = 0 ∨ (f = false ∧ (A * g.2.1 + B * g.2.2) * b ≤ t * g.1) then mxS A B r f t b
    else mxS A B r false ((A * g.2.1 + B * g.2.2).tdiv (Nat.gcd (A * g.2.1 + B * g.2.2).natAbs g.1.natAbs : Nat)) (g.1.tdiv (Nat.gcd (A * g.2.1 + B * g.2.2).natAbs g.1.natAbs : Nat))
def mxR (a : RSt) (G : List V3) : Nat × Int × Int := mxS (a.2.1 0) (a.2.1 1) G true a.2.2.2.2.1 a.2.2.2.2.2
def rMax (a : RSt) (x : Int32) : RR :=
  if slotB x = false then (1, 0, a) else if a.2.2.1 ≠ 2 then (2, 0, a) else if a.1 x.toNatClampNeg 4 = [] then (0, 0, (a.1, a.2.1, 0, false, a.2.2.2.2))
  else (0, nI (mxR a (agL [] (gnL a.1 x.toNatClampNeg))).1, (a.1, a.2.1, 0, decide ((mxR a (agL [] (gnL a.1 x.toNatClampNeg))).1 = 2), (mxR a (agL [] (gnL a.1 x.toNatClampNeg))).2))
section EHOLD
variable {sc : Scr} {d : Nat} {m : MM} {D Z h : PH} {Q : Out → PH → Prop} {a : RSt} {G : List V3} {T : Tab}
theorem dot30 {r v : V3} (hr : bdV 30 r) (hv : bdV 30 v) : inL (dot r v) := (bd_dot2 hr hv).inL (by decide)
theorem ho_in {call : Callee} (hc : call = wpC sc (d + 1)) (hm : MR m D Z h) {s k : Nat} (hs : s < 4) (hk : k < 2) {l : List V3} (hT : TB m s k l) (hb : ∀ v ∈ l, bdV 30 v) {v : V3} (hv : bdV 30 v) {X : Int32} (hX : X = nI k) {p : V3 → Bool} (hp : ∀ r, p r = if k = 0 then decide (dot r v = 0) else decide (0 ≤ dot r v)) :
    ∀ (n i : Nat) (g : Bool), i + n = l.length → Runs (d + 1) call sc m_X4_holds Q 128 [(0, .ref 60), (1, .int (nI s)), (2, .long (Int64.ofInt v.1)), (4, .long (Int64.ofInt v.2.1)), (6, .long (Int64.ofInt v.2.2)), (8, .int (bI01 (g && (l.drop i).all p))), (9, .int X)] [] h 0 0 →
    Runs (d + 1) call sc m_X4_holds Q 27 [(0, .ref 60), (1, .int (nI s)), (2, .long (Int64.ofInt v.1)), (4, .long (Int64.ofInt v.2.1)), (6, .long (Int64.ofInt v.2.2)), (8, .int (bI01 g)), (9, .int X), (10, .int (nI i))] [] h 0 0 := by
  have hl16 := hT.2.2
  intro n
  induction n with
  | zero =>
    intro i g hi hk'
    rw [List.drop_eq_nil_of_le (by omega), List.all_nil, Bool.and_true] at hk'
    refine go hc 6 (fun K hK => ?_)
    conv => whnf
    refine ⟨_, hm.M, Nat.le_of_ble_eq_true rfl, ?_⟩
    conv => whnf
    refine callee hc (e_count hm (k := k) rfl hX hs (by omega) hT ?_)
    conv => whnf
    refine ⟨fun c_ => ?_, fun c_ => absurd (nI_le (by omega) (by omega)) c_⟩
    conv => whnf
    try simp only [nI_1]
    refine hK _ _ _ _ _ _ (Runs.less hc [0, 1, 2, 4, 6, 8, 9] rfl rfl rfl rfl hk')
  | succ n ih =>
    intro i g hi hk'
    have hil : i < l.length := by omega
    obtain ⟨e1, e2, e3⟩ := hT.2.1.at hil
    have hbv := hb _ (gt_mem hil)
    have hd := dot30 hbv hv
    have hr : 48 * (5 * s + k) + 3 * i + 2 < 960 := by omega
    rw [drop_gt hil, List.all_cons, ← Bool.and_assoc] at hk'
    have n120 : ∀ (v11 : Int32) (v12 : Int64) (g' : Bool), g' = (g && p (gt l i)) → Runs (d + 1) call sc m_X4_holds Q 120 [(0, .ref 60), (1, .int (nI s)), (2, .long (Int64.ofInt v.1)), (4, .long (Int64.ofInt v.2.1)), (6, .long (Int64.ofInt v.2.2)), (8, .int (bI01 g)), (9, .int X), (10, .int (nI i)), (11, .int v11), (12, .long v12)] [.int (bI01 g')] h 0 0 := by
      intro v11 v12 g' hg
      rw [← hg] at hk'
      refine go hc 3 (fun K hK => ?_)
      conv => whnf
      try simp only [nI_1]
      refine hK _ _ _ _ _ _ (Runs.less hc [0, 1, 2, 4, 6, 8, 9, 10] rfl rfl rfl rfl (ih (i + 1) g' (by omega) hk'))
    have n119 : ∀ (v11 : Int32) (v12 : Int64), false = (g && p (gt l i)) → Runs (d + 1) call sc m_X4_holds Q 119 [(0, .ref 60), (1, .int (nI s)), (2, .long (Int64.ofInt v.1)), (4, .long (Int64.ofInt v.2.1)), (6, .long (Int64.ofInt v.2.2)), (8, .int (bI01 g)), (9, .int X), (10, .int (nI i)), (11, .int v11), (12, .long v12)] [] h 0 0 := by
      intro v11 v12 hg
      refine go hc 1 (fun K hK => ?_)
      conv => whnf
      refine hK _ _ _ _ _ _ (n120 v11 v12 false hg)
    have n115 : ∀ (v11 : Int32) (v12 : Int64), true = (g && p (gt l i)) → Runs (d + 1) call sc m_X4_holds Q 115 [(0, .ref 60), (1, .int (nI s)), (2, .long (Int64.ofInt v.1)), (4, .long (Int64.ofInt v.2.1)), (6, .long (Int64.ofInt v.2.2)), (8, .int (bI01 g)), (9, .int X), (10, .int (nI i)), (11, .int v11), (12, .long v12)] [] h 0 0 := by
      intro v11 v12 hg
      refine go hc 2 (fun K hK => ?_)
      conv => whnf
      refine hK _ _ _ _ _ _ (n120 v11 v12 true hg)
    refine go hc 6 (fun K hK => ?_)
    conv => whnf
    refine ⟨_, hm.M, Nat.le_of_ble_eq_true rfl, ?_⟩
    conv => whnf
    refine callee hc (e_count hm (k := k) rfl hX hs (by omega) hT ?_)
    conv => whnf
    refine ⟨fun c_ => absurd c_ (nI_ge hil (by omega)), fun c_ => ?_⟩
    conv => whnf
    refine hK _ _ _ _ _ _ (go hc 36 (fun K hK => ?_))
    conv => whnf
    refine ⟨_, hm.M, Nat.le_of_ble_eq_true rfl, ?_⟩
    conv => whnf
    refine callee hc (e_at (s := s) (k := k) (i := i) rfl hX rfl ?_)
    conv => whnf
    refine ⟨_, _, hm.M, rfl, ?_⟩
    conv => whnf
    refine Or.inr ⟨_, _, hm.I3, ixv (k := 48 * (5 * s + k) + 3 * i) ((rfl : nI (48 * (5 * s + k) + 3 * i) = nI (48 * (5 * s + k) + 3 * i))) (by omega) (Nat.le_of_ble_eq_true rfl), ?_⟩
    rw [ixc (k := 48 * (5 * s + k) + 3 * i) ((rfl : nI (48 * (5 * s + k) + 3 * i) = nI (48 * (5 * s + k) + 3 * i))) (by omega)]
    conv => whnf
    refine ⟨_, _, hm.M, rfl, ?_⟩
    conv => whnf
    refine Or.inr ⟨_, _, hm.I3, ixv (k := (48 * (5 * s + k) + 3 * i) + (1)) (ia ((rfl : nI (48 * (5 * s + k) + 3 * i) = nI (48 * (5 * s + k) + 3 * i))) ((rfl : (1 : Int32) = nI 1))) (by omega) (Nat.le_of_ble_eq_true rfl), ?_⟩
    rw [ixc (k := (48 * (5 * s + k) + 3 * i) + (1)) (ia ((rfl : nI (48 * (5 * s + k) + 3 * i) = nI (48 * (5 * s + k) + 3 * i))) ((rfl : (1 : Int32) = nI 1))) (by omega)]
    conv => whnf
    refine ⟨_, _, hm.M, rfl, ?_⟩
    conv => whnf
    refine Or.inr ⟨_, _, hm.I3, ixv (k := (48 * (5 * s + k) + 3 * i) + (2)) (ia ((rfl : nI (48 * (5 * s + k) + 3 * i) = nI (48 * (5 * s + k) + 3 * i))) ((rfl : (2 : Int32) = nI 2))) (by omega) (Nat.le_of_ble_eq_true rfl), ?_⟩
    rw [ixc (k := (48 * (5 * s + k) + 3 * i) + (2)) (ia ((rfl : nI (48 * (5 * s + k) + 3 * i) = nI (48 * (5 * s + k) + 3 * i))) ((rfl : (2 : Int32) = nI 2))) (by omega)]
    conv => whnf
    rw [show (mI m 3 (48 * (5 * s + k) + 3 * i)).toInt64 = Int64.ofInt (gt l i).1 from by unfold mI; rw [e1]; exact i32_l hbv.1, show (mI m 3 (48 * (5 * s + k) + 3 * i + 1)).toInt64 = Int64.ofInt (gt l i).2.1 from by unfold mI; rw [e2]; exact i32_l hbv.2.1, show (mI m 3 (48 * (5 * s + k) + 3 * i + 2)).toInt64 = Int64.ofInt (gt l i).2.2 from by unfold mI; rw [e3]; exact i32_l hbv.2.2, oI_dot]
    cases g with
    | false =>
      refine ⟨fun c_ => ?_, fun c_ => absurd (rfl) c_⟩
      conv => whnf
      refine hK _ _ _ _ _ _ (n119 _ _ rfl)
    | true =>
      rw [hp, Bool.true_and] at n119 n115
      refine ⟨fun c_ => absurd c_ (by decide), fun c_ => ?_⟩
      conv => whnf
      refine hK _ _ _ _ _ _ (go hc 4 (fun K hK => ?_))
      conv => whnf
      by_cases c1 : dot (gt l i) v < 0
      · refine ⟨fun c_ => ?_, fun c_ => absurd ((kLt0 hd).mpr c1) c_⟩
        conv => whnf
        refine hK _ _ _ _ _ _ (n119 _ _ (by split; exact (decide_eq_false (by omega)).symm; exact (decide_eq_false (by omega)).symm))
      · refine ⟨fun c_ => absurd c_ (fun q => c1 ((kLt0 hd).mp q)), fun c_ => ?_⟩
        conv => whnf
        refine hK _ _ _ _ _ _ (go hc 4 (fun K hK => ?_))
        conv => whnf
        by_cases c2 : dot (gt l i) v = 0
        · refine ⟨fun c_ => ?_, fun c_ => absurd ((kEq0 hd).mpr c2) c_⟩
          conv => whnf
          refine hK _ _ _ _ _ _ (n115 _ _ (by split; exact (decide_eq_true c2).symm; exact (decide_eq_true (by omega)).symm))
        · refine ⟨fun c_ => absurd c_ (fun q => c2 ((kEq0 hd).mp q)), fun c_ => ?_⟩
          conv => whnf
          refine hK _ _ _ _ _ _ (go hc 3 (fun K hK => ?_))
          conv => whnf
          by_cases c3 : k = 0
          · refine ⟨fun c_ => absurd c_ (by rw [hX, c3]; decide), fun c_ => ?_⟩
            conv => whnf
            refine hK _ _ _ _ _ _ (n119 _ _ (by rw [if_pos c3]; exact (decide_eq_false c2).symm))
          · have c4 : k = 1 := by omega
            refine ⟨fun c_ => ?_, fun c_ => absurd (by rw [hX, c4]; rfl) c_⟩
            conv => whnf
            refine hK _ _ _ _ _ _ (n115 _ _ (by rw [if_neg c3]; exact (decide_eq_true (by omega)).symm))
theorem e_holds (hm : MR m D Z h) {s : Nat} {X : Int32} (hX : X = nI s) (hs : s < 4) (hT : Tb m T) (hok : okT T) (v : V3) {x y z : Int64} (hx : x = Int64.ofInt v.1) (hy : y = Int64.ofInt v.2.1) (hz : z = Int64.ofInt v.2.2) (hv : bdV 30 v) (hQ : Q (.inl (some (.int (bI01 (hoB T s v))))) h) : wpC sc (d + 3) 136 [.ref 60, .int X, .long x, .long y, .long z] h Q := by
  subst hX; subst hx; subst hy; subst hz
  have t0 := hT s 0 hs (by omega)
  have t1 := hT s 1 hs (by omega)
  unfold hoB at hQ
  rw [← Bool.and_assoc] at hQ
  have n13 : ∀ {call : Callee}, call = wpC sc (d + 2) → ∀ g : Bool, g = decide (T s 4 ≠ []) → Runs (d + 2) call sc m_X4_holds (qth (mTh m_X4_holds) Q) 13 [(0, .ref 60), (1, .int (nI s)), (2, .long (Int64.ofInt v.1)), (4, .long (Int64.ofInt v.2.1)), (6, .long (Int64.ofInt v.2.2))] [.int (bI01 g)] h 0 0 := by
    intro call hc g hg
    rw [← hg] at hQ
    refine go hc 6 (fun K hK => ?_)
    conv => whnf
    refine ⟨fun c_ => absurd c_ (by decide), fun c_ => ?_⟩
    conv => whnf
    refine hK _ _ _ _ _ _ (go hc 2 (fun K hK => ?_))
    conv => whnf
    try simp only [nI_1]
    refine hK _ _ _ _ _ _ (Runs.less hc [0, 1, 2, 4, 6, 8, 9, 10] rfl rfl rfl rfl (ho_in (Q := qth _ Q) hc hm hs (k := 0) (by omega) t0 (hok s 0 hs (by omega)) hv rfl (p := fun r => decide (dot r v = 0)) (fun r => by rw [if_pos rfl]) (T s 0).length 0 g (by omega) ?_))
    refine go hc 5 (fun K hK => ?_)
    conv => whnf
    refine ⟨fun c_ => absurd c_ (by decide), fun c_ => ?_⟩
    conv => whnf
    refine hK _ _ _ _ _ _ (go hc 2 (fun K hK => ?_))
    conv => whnf
    try simp only [nI_1]
    refine hK _ _ _ _ _ _ (Runs.less hc [0, 1, 2, 4, 6, 8, 9, 10] rfl rfl rfl rfl (ho_in (Q := qth _ Q) hc hm hs (k := 1) (by omega) t1 (hok s 1 hs (by omega)) hv rfl (p := fun r => decide (0 ≤ dot r v)) (fun r => by rw [if_neg (by decide)]) (T s 1).length 0 _ (by omega) ?_))
    refine go hc 5 (fun K hK => ?_)
    conv => whnf
    refine ⟨fun c_ => ?_, fun c_ => absurd (by decide) c_⟩
    conv => whnf
    refine hK _ _ _ _ _ _ (go hc 2 (fun K hK => ?_))
    conv => whnf
    exact ⟨by generalize ((g && ((T s 0).drop 0).all fun r => decide (dot r v = 0)) && ((T s 1).drop 0).all fun r => decide (0 ≤ dot r v)) = b; cases b <;> simp [bI01], hQ⟩
  refine enter rfl rfl (fun call hc => go hc 4 (fun K hK => ?_))
  conv => whnf
  refine ⟨_, hm.M, Nat.le_of_ble_eq_true rfl, ?_⟩
  conv => whnf
  refine callee hc (e_isEmpty hm rfl hs (hT s 4 hs (by omega)) ?_)
  conv => whnf
  by_cases c : T s 4 = []
  · rw [decide_eq_true c]
    refine ⟨fun c_ => absurd c_ (by decide), fun c_ => ?_⟩
    conv => whnf
    refine hK _ _ _ _ _ _ (go hc 1 (fun K hK => ?_))
    conv => whnf
    refine hK _ _ _ _ _ _ (n13 hc false (decide_eq_false (fun q => q c)).symm)
  · rw [decide_eq_false c]
    refine ⟨fun c_ => ?_, fun c_ => absurd (rfl) c_⟩
    conv => whnf
    refine hK _ _ _ _ _ _ (go hc 2 (fun K hK => ?_))
    conv => whnf
    refine hK _ _ _ _ _ _ (n13 hc true (decide_eq_true c).symm)
theorem e_has (hm : MR m D Z h) (hr : RZ m a) (hok : okS2 a) {x : Int32} (hQ : ∀ m' h', MR m' D Z h' → RZ m' (rHas a x).2.2 → m' 12 0 = ((rHas a x).1 : Int) → Q (.inl (some (.int (rHas a x).2.1))) h') : wpC sc (d + 4) 137 [.ref 60, .int x] h Q := by
  unfold rHas at hQ
  have hs6 := hok.2.2
  have q0 := hok.2.1 0 (by omega)
  have q1 := hok.2.1 1 (by omega)
  have q2 := hok.2.1 2 (by omega)
  have F1 := hr.F1
  have bad : ∀ {call : Callee}, call = wpC sc (d + 3) → ∀ n : Nat, 0 < n → n < 3 → (∀ m' h', MR m' D Z h' → RZ m' a → m' 12 0 = (n : Int) → Q (.inl (some (.int 0))) h') → Runs (d + 3) call sc m_X4_has (qth (mTh m_X4_has) Q) 34 [(0, .ref 60), (1, .int x)] [.int (nI n), .ref 60] h 0 0 := by
    intro call hc n hn0 hn3 hq
    refine go hc 4 (fun K hK => ?_)
    conv => whnf
    refine ⟨_, hm.M, Nat.le_of_ble_eq_true rfl, ?_⟩
    replace hm := hm.code (v := (n : Int)) rfl
    replace hr := hr.code (n : Int)
    conv => whnf
    refine ⟨_, _, hm.M, rfl, ?_⟩
    conv => whnf
    rw [show mF (mu m 12 0 (n : Int)) 12 = nI n from mF_of (mu_at _ _ _ _)]
    refine ⟨fun c_ => absurd c_ (nI_nle hn0 (by omega)), fun c_ => ?_⟩
    conv => whnf
    refine hK _ _ _ _ _ _ (go hc 2 (fun K hK => ?_))
    conv => whnf
    exact ⟨Or.inl rfl, hq _ _ hm hr (mu_at _ _ _ _)⟩
  refine enter rfl rfl (fun call hc => go hc 4 (fun K hK => ?_))
  conv => whnf
  refine ⟨Nat.le_of_ble_eq_true rfl, ?_⟩
  conv => whnf
  refine callee hc (e_isSlot ?_)
  conv => whnf
  cases hx : slotB x with
  | false =>
    rw [if_pos hx] at hQ
    refine ⟨fun c_ => ?_, fun c_ => absurd (rfl) c_⟩
    conv => whnf
    refine hK _ _ _ _ _ _ (go hc 2 (fun K hK => ?_))
    conv => whnf
    refine hK _ _ _ _ _ _ (bad hc 1 (by omega) (by omega) hQ)
  | true =>
    rw [if_neg (by rw [hx]; decide)] at hQ
    obtain ⟨i, hi, he, hn⟩ := slot_nat hx
    subst he
    rw [hn] at hQ
    have n29 : (a.2.2.1 ≠ 3 ∨ a.2.1 0 ≤ 0) → Runs (d + 3) call sc m_X4_has (qth (mTh m_X4_has) Q) 29 [(0, .ref 60), (1, .int (nI i))] [.ref 60] h 0 0 := fun q => by
      rw [if_pos q] at hQ
      refine go hc 2 (fun K hK => ?_)
      conv => whnf
      refine hK _ _ _ _ _ _ (bad hc 2 (by omega) (by omega) hQ)
    refine ⟨fun c_ => absurd c_ (by decide), fun c_ => ?_⟩
    conv => whnf
    refine hK _ _ _ _ _ _ ?_
    refine go hc 4 (fun K hK => ?_)
    conv => whnf
    refine ⟨_, _, hm.M, rfl, ?_⟩
    rw [F1]
    conv => whnf
    by_cases c3 : a.2.2.1 = 3
    · refine ⟨fun c_ => ?_, fun c_ => absurd (by rw [c3]; rfl) c_⟩
      conv => whnf
      refine hK _ _ _ _ _ _ (go hc 5 (fun K hK => ?_))
      conv => whnf
      refine ⟨_, _, hm.M, rfl, ?_⟩
      conv => whnf
      refine Or.inr ⟨_, _, hm.I1, ixv (k := 0) ((rfl : (0 : Int32) = nI 0)) (by omega) (Nat.le_of_ble_eq_true rfl), ?_⟩
      rw [ixc (k := 0) ((rfl : (0 : Int32) = nI 0)) (by omega)]
      conv => whnf
      rw [hr.num (by omega)]
      by_cases c4 : a.2.1 0 ≤ 0
      · refine ⟨fun c_ => absurd c_ (fun q => (Int32.not_lt.mpr ((i0_le q0).mpr c4)) q), fun c_ => ?_⟩
        conv => whnf
        refine hK _ _ _ _ _ _ (n29 (Or.inr c4))
      · rw [if_neg (fun q => q.elim (fun z => z c3) c4)] at hQ
        refine ⟨fun c_ => ?_, fun c_ => absurd (Int32.not_le.mp fun q => c4 ((i0_le q0).mp q)) c_⟩
        conv => whnf
        refine hK _ _ _ _ _ _ ?_
        refine go hc 1 (fun K hK => ?_)
        conv => whnf
        refine hK _ _ _ _ _ _ ?_
        refine go hc 4 (fun K hK => ?_)
        conv => whnf
        refine ⟨_, hm.M, Nat.le_of_ble_eq_true rfl, ?_⟩
        replace hm := hm.code (v := 0) rfl
        replace hr := hr.code 0
        have z0 : mu m 12 0 0 12 0 = 0 := mu_at _ _ _ _
        generalize mu m 12 0 0 = m1 at *
        conv => whnf
        refine ⟨_, _, hm.M, rfl, ?_⟩
        conv => whnf
        rw [show mF m1 12 = nI 0 from mF_of z0]
        refine ⟨fun c_ => ?_, fun c_ => absurd (by decide) c_⟩
        conv => whnf
        refine hK _ _ _ _ _ _ ?_
        refine go hc 22 (fun K hK => ?_)
        conv => whnf
        refine ⟨_, hm.M, Nat.le_of_ble_eq_true rfl, ?_⟩
        replace hm := hm.said (v := 0) rfl
        replace hr := hr.said
        have z1 : mu m1 13 0 0 12 0 = 0 := z0
        generalize mu m1 13 0 0 = m2 at *
        conv => whnf
        refine ⟨_, _, hm.M, rfl, ?_⟩
        conv => whnf
        refine Or.inr ⟨_, _, hm.I1, ixv (k := 0) ((rfl : (0 : Int32) = nI 0)) (by omega) (Nat.le_of_ble_eq_true rfl), ?_⟩
        rw [ixc (k := 0) ((rfl : (0 : Int32) = nI 0)) (by omega)]
        conv => whnf
        refine ⟨_, _, hm.M, rfl, ?_⟩
        conv => whnf
        refine Or.inr ⟨_, _, hm.I1, ixv (k := 1) ((rfl : (1 : Int32) = nI 1)) (by omega) (Nat.le_of_ble_eq_true rfl), ?_⟩
        rw [ixc (k := 1) ((rfl : (1 : Int32) = nI 1)) (by omega)]
        conv => whnf
        refine ⟨_, _, hm.M, rfl, ?_⟩
        conv => whnf
        refine Or.inr ⟨_, _, hm.I1, ixv (k := 2) ((rfl : (2 : Int32) = nI 2)) (by omega) (Nat.le_of_ble_eq_true rfl), ?_⟩
        rw [ixc (k := 2) ((rfl : (2 : Int32) = nI 2)) (by omega)]
        conv => whnf
        refine ⟨_, hm.M, Nat.le_of_ble_eq_true rfl, ?_⟩
        conv => whnf
        refine callee hc (e_holds hm rfl hi hr.1 hok.1 (num3 a) (by rw [hr.num (by omega)]; exact i32_l q0) (by rw [hr.num (by omega)]; exact i32_l q1) (by rw [hr.num (by omega)]; exact i32_l q2) ⟨q0, q1, q2⟩ ?_)
        conv => whnf
        exact ⟨by cases hoB a.1 i (num3 a) <;> simp [bI01], hQ m2 _ hm hr z1⟩
    · refine ⟨fun c_ => absurd c_ ((fun q => c3 ((nI_eq (by omega) (by decide)).mp q))), fun c_ => ?_⟩
      conv => whnf
      refine hK _ _ _ _ _ _ (n29 (Or.inl c3))
theorem in_loop {call : Callee} (hc : call = wpC sc (d + 3)) (hm : MR m D Z h) {i : Nat} (hi : i < 4) (hT : Tb m T) (hok : okT T) (hG : RW m 4 0 G) (F5 : mF m 14 = nI G.length) (hgl : G.length ≤ 600) (hb : ∀ v ∈ G, bdV 30 v) {Y : Int32} :
    ∀ (n j : Nat) (g : Bool), j + n = G.length → Q (.inl (some (.int (bI01 (g && (G.drop j).all (hoB T i)))))) h → Runs (d + 3) call sc m_X4_includes Q 46 [(0, .ref 60), (1, .int (nI i)), (2, .int Y), (3, .int (bI01 g)), (4, .int (nI j))] [] h 0 0 := by
  intro n
  induction n with
  | zero =>
    intro j g hj hQ
    rw [List.drop_eq_nil_of_le (by omega), List.all_nil, Bool.and_true] at hQ
    refine go hc 4 (fun K hK => ?_)
    conv => whnf
    refine ⟨_, _, hm.M, rfl, ?_⟩
    rw [F5]
    conv => whnf
    refine ⟨fun c_ => ?_, fun c_ => absurd (nI_le (by omega) (by omega)) c_⟩
    conv => whnf
    refine hK _ _ _ _ _ _ (go hc 2 (fun K hK => ?_))
    conv => whnf
    exact ⟨by cases g <;> simp [bI01], hQ⟩
  | succ n ih =>
    intro j g hj hQ
    have hjl : j < G.length := by omega
    have hv := hG.v0 hjl
    have hbv := hb _ (gt_mem hjl)
    rw [drop_gt hjl, List.all_cons, ← Bool.and_assoc] at hQ
    have n103 : ∀ g' : Bool, g' = (g && hoB T i (gt G j)) → Runs (d + 3) call sc m_X4_includes Q 103 [(0, .ref 60), (1, .int (nI i)), (2, .int Y), (3, .int (bI01 g)), (4, .int (nI j))] [.int (bI01 g')] h 0 0 := by
      intro g' hg
      rw [← hg] at hQ
      refine go hc 3 (fun K hK => ?_)
      conv => whnf
      try simp only [nI_1]
      refine hK _ _ _ _ _ _ (Runs.less hc [0, 1, 2, 3, 4] rfl rfl rfl rfl (ih (j + 1) g' (by omega) hQ))
    have n102 : false = (g && hoB T i (gt G j)) → Runs (d + 3) call sc m_X4_includes Q 102 [(0, .ref 60), (1, .int (nI i)), (2, .int Y), (3, .int (bI01 g)), (4, .int (nI j))] [] h 0 0 := fun q => by
      refine go hc 1 (fun K hK => ?_)
      conv => whnf
      refine hK _ _ _ _ _ _ (n103 false q)
    refine go hc 4 (fun K hK => ?_)
    conv => whnf
    refine ⟨_, _, hm.M, rfl, ?_⟩
    rw [F5]
    conv => whnf
    refine ⟨fun c_ => absurd c_ (nI_ge hjl (by omega)), fun c_ => ?_⟩
    conv => whnf
    refine hK _ _ _ _ _ _ (go hc 2 (fun K hK => ?_))
    conv => whnf
    cases g with
    | false =>
      refine ⟨fun c_ => ?_, fun c_ => absurd (rfl) c_⟩
      conv => whnf
      refine hK _ _ _ _ _ _ (n102 rfl)
    | true =>
      rw [Bool.true_and] at n103 n102
      refine ⟨fun c_ => absurd c_ (by decide), fun c_ => ?_⟩
      conv => whnf
      refine hK _ _ _ _ _ _ (go hc 26 (fun K hK => ?_))
      conv => whnf
      refine ⟨_, _, hm.M, rfl, ?_⟩
      conv => whnf
      refine ⟨_, _, hm.L4, ixv (k := (3) * (j)) (im ((rfl : (3 : Int32) = nI 3)) ((rfl : nI (j) = nI (j)))) (by omega) (Nat.le_of_ble_eq_true rfl), ?_⟩
      rw [ixc (k := (3) * (j)) (im ((rfl : (3 : Int32) = nI 3)) ((rfl : nI (j) = nI (j)))) (by omega)]
      conv => whnf
      refine ⟨_, _, hm.M, rfl, ?_⟩
      conv => whnf
      refine ⟨_, _, hm.L4, ixv (k := ((3) * (j)) + (1)) (ia (im ((rfl : (3 : Int32) = nI 3)) ((rfl : nI (j) = nI (j)))) ((rfl : (1 : Int32) = nI 1))) (by omega) (Nat.le_of_ble_eq_true rfl), ?_⟩
      rw [ixc (k := ((3) * (j)) + (1)) (ia (im ((rfl : (3 : Int32) = nI 3)) ((rfl : nI (j) = nI (j)))) ((rfl : (1 : Int32) = nI 1))) (by omega)]
      conv => whnf
      refine ⟨_, _, hm.M, rfl, ?_⟩
      conv => whnf
      refine ⟨_, _, hm.L4, ixv (k := ((3) * (j)) + (2)) (ia (im ((rfl : (3 : Int32) = nI 3)) ((rfl : nI (j) = nI (j)))) ((rfl : (2 : Int32) = nI 2))) (by omega) (Nat.le_of_ble_eq_true rfl), ?_⟩
      rw [ixc (k := ((3) * (j)) + (2)) (ia (im ((rfl : (3 : Int32) = nI 3)) ((rfl : nI (j) = nI (j)))) ((rfl : (2 : Int32) = nI 2))) (by omega)]
      conv => whnf
      refine ⟨_, hm.M, Nat.le_of_ble_eq_true rfl, ?_⟩
      conv => whnf
      refine callee hc (e_holds hm rfl hi hT hok (gt G j) (by unfold mL; rw [show m 4 (3 * j) = (gt G j).1 from congrArg Prod.fst hv]) (by unfold mL; rw [show m 4 (3 * j + 1) = (gt G j).2.1 from congrArg (fun v : V3 => v.2.1) hv]) (by unfold mL; rw [show m 4 (3 * j + 2) = (gt G j).2.2 from congrArg (fun v : V3 => v.2.2) hv]) hbv ?_)
      conv => whnf
      cases hh : hoB T i (gt G j) with
      | false =>
        refine ⟨fun c_ => ?_, fun c_ => absurd (rfl) c_⟩
        conv => whnf
        refine hK _ _ _ _ _ _ (n102 hh.symm)
      | true =>
        refine ⟨fun c_ => absurd c_ (by decide), fun c_ => ?_⟩
        conv => whnf
        refine hK _ _ _ _ _ _ (go hc 2 (fun K hK => ?_))
        conv => whnf
        refine hK _ _ _ _ _ _ (n103 true hh.symm)
theorem e_includes (hm : MR m D Z h) (hr : RZ m a) (hok : okS2 a) {x y : Int32} (hQ : ∀ m' h', MR m' D Z h' → RZ m' (rInc a x y).2.2 → m' 12 0 = ((rInc a x y).1 : Int) → Q (.inl (some (.int (rInc a x y).2.1))) h') : wpC sc (d + 4) 138 [.ref 60, .int x, .int y] h Q := by
  unfold rInc at hQ
  have n19 : ∀ {call : Callee}, call = wpC sc (d + 3) → (slotB x = false ∨ slotB y = false) → Runs (d + 3) call sc m_X4_includes (qth (mTh m_X4_includes) Q) 19 [(0, .ref 60), (1, .int x), (2, .int y)] [.ref 60] h 0 0 := by
    intro call hc q
    rw [if_pos q] at hQ
    refine go hc 1 (fun K hK => ?_)
    conv => whnf
    refine hK _ _ _ _ _ _ ?_
    refine go hc 4 (fun K hK => ?_)
    conv => whnf
    refine ⟨_, hm.M, Nat.le_of_ble_eq_true rfl, ?_⟩
    replace hm := hm.code (v := 1) rfl
    replace hr := hr.code 1
    conv => whnf
    refine ⟨_, _, hm.M, rfl, ?_⟩
    conv => whnf
    refine ⟨fun c_ => absurd c_ ((show ¬ Int32.ofInt 1 ≤ 0 by decide)), fun c_ => ?_⟩
    conv => whnf
    refine hK _ _ _ _ _ _ (go hc 2 (fun K hK => ?_))
    conv => whnf
    exact ⟨Or.inl rfl, hQ _ _ hm hr (mu_at _ _ _ _)⟩
  refine enter rfl rfl (fun call hc => go hc 4 (fun K hK => ?_))
  conv => whnf
  refine ⟨Nat.le_of_ble_eq_true rfl, ?_⟩
  conv => whnf
  refine callee hc (e_isSlot ?_)
  conv => whnf
  cases hx : slotB x with
  | false =>
    refine ⟨fun c_ => ?_, fun c_ => absurd (rfl) c_⟩
    conv => whnf
    refine hK _ _ _ _ _ _ (n19 hc (Or.inl hx))
  | true =>
    refine ⟨fun c_ => absurd c_ (by decide), fun c_ => ?_⟩
    conv => whnf
    refine hK _ _ _ _ _ _ (go hc 3 (fun K hK => ?_))
    conv => whnf
    refine ⟨Nat.le_of_ble_eq_true rfl, ?_⟩
    conv => whnf
    refine callee hc (e_isSlot ?_)
    conv => whnf
    cases hy : slotB y with
    | false =>
      refine ⟨fun c_ => ?_, fun c_ => absurd (rfl) c_⟩
      conv => whnf
      refine hK _ _ _ _ _ _ (n19 hc (Or.inr hy))
    | true =>
      rw [if_neg (by rw [hx, hy]; decide)] at hQ
      obtain ⟨i, hi, he, hn⟩ := slot_nat hx
      subst he
      obtain ⟨j, hj, he, hn'⟩ := slot_nat hy
      subst he
      rw [hn, hn'] at hQ
      refine ⟨fun c_ => absurd c_ (by decide), fun c_ => ?_⟩
      conv => whnf
      refine hK _ _ _ _ _ _ (go hc 2 (fun K hK => ?_))
      conv => whnf
      refine hK _ _ _ _ _ _ ?_
      refine go hc 4 (fun K hK => ?_)
      conv => whnf
      refine ⟨_, hm.M, Nat.le_of_ble_eq_true rfl, ?_⟩
      replace hm := hm.code (v := 0) rfl
      replace hr := hr.code 0
      have z0 : mu m 12 0 0 12 0 = 0 := mu_at _ _ _ _
      generalize mu m 12 0 0 = m1 at *
      conv => whnf
      refine ⟨_, _, hm.M, rfl, ?_⟩
      conv => whnf
      rw [show mF m1 12 = nI 0 from mF_of z0]
      refine ⟨fun c_ => ?_, fun c_ => absurd (by decide) c_⟩
      conv => whnf
      refine hK _ _ _ _ _ _ ?_
      have len1 := gnL_len16 hr.1 (C := []) hj
      rw [List.length_nil] at len1
      refine go hc 9 (fun K hK => ?_)
      conv => whnf
      refine ⟨_, hm.M, Nat.le_of_ble_eq_true rfl, ?_⟩
      conv => whnf
      refine callee hc (e_begin hm ?_)
      intro m2 h2 hm g2 k2 d2 f2
      have hr2 := hr.fx f2 (by decide) (by decide) (by decide) (by decide) (by decide) (by decide) (by decide)
      conv => whnf
      refine ⟨_, hm.M, Nat.le_of_ble_eq_true rfl, ?_⟩
      conv => whnf
      refine callee hc (e_takeG (G := []) hm rfl hj hr2.1 hok.1 (fun i hi => absurd hi (Nat.not_lt_zero _)) g2 (by simp) ?_)
      intro m3 h3 hm r3 n3 f3
      have hr3 := hr2.fx f3 (by decide) (by decide) (by decide) (by decide) (by decide) (by decide) (by decide)
      conv => whnf
      try simp only [nI_1]
      refine hK _ _ _ _ _ _ (Runs.less hc [0, 1, 2, 3, 4] rfl rfl rfl rfl (in_loop (Q := qth _ Q) hc hm hi hr3.1 hok.1 r3 (mF_of n3) (by omega) (gnL_bd hok.1 hj) (agL [] (gnL a.1 j)).length 0 true (by omega) (hQ m3 h3 hm hr3 (by rw [f3 12 (by decide), f2 12 (by decide)]; exact z0))))
theorem mx_loop {call : Callee} (hc : call = wpC sc (d + 1)) {m0 : MM} {A B : Int} (hA : bdI 30 A) (hB : bdI 30 B) (hG : RW m0 4 0 G) (hgn : m0 14 0 = (G.length : Int)) (hgl : G.length ≤ 600) (hb : ∀ v ∈ G, bdV 30 v) {X : Int32} {R : Nat × Int × Int}
    (hQ : ∀ m' h', MR m' D Z h' → Fx [18, 19] m0 m' → m' 18 0 = R.2.1 → m' 19 0 = R.2.2 → R.1 = 1 → Q (.inl (some (.int 1))) h') (hQ2 : ∀ m' h', MR m' D Z h' → Fx [18, 19] m0 m' → m' 18 0 = R.2.1 → m' 19 0 = R.2.2 → R.1 = 2 → Runs (d + 1) call sc m_X4_maximum Q 217 [(0, .ref 60)] [] h' 0 0) :
    ∀ (n i : Nat) (m : MM) (h : PH) (f : Bool) (t b : Int), i + n = G.length → MR m D Z h → Fx [18, 19] m0 m → m 18 0 = t → m 19 0 = b → (f = false → bdI 1800 t ∧ bdI 30 b) → mxS A B (G.drop i) f t b = R →
    Runs (d + 1) call sc m_X4_maximum Q 81 [(0, .ref 60), (1, .int X), (2, .int (Int32.ofInt A)), (3, .int (Int32.ofInt B)), (4, .int (bI01 f)), (5, .int (nI i))] [] h 0 0 := by
  intro n
  induction n with
  | zero =>
    intro i m h f t b hi hm hf ht hb' hfb hR
    rw [List.drop_eq_nil_of_le (by omega)] at hR
    have hR : (2, t, b) = R := hR
    subst hR
    have F5 : mF m 14 = nI G.length := mF_of (by rw [hf 14 (by decide)]; exact hgn)
    refine go hc 4 (fun K hK => ?_)
    conv => whnf
    refine ⟨_, _, hm.M, rfl, ?_⟩
    rw [F5]
    conv => whnf
    refine ⟨fun c_ => ?_, fun c_ => absurd (nI_le (by omega) (by omega)) c_⟩
    conv => whnf
    try simp only [nI_1]
    refine hK _ _ _ _ _ _ (Runs.less hc [0] rfl rfl rfl rfl (hQ2 m h hm hf ht hb' rfl))
  | succ n ih =>
    intro i m h f t b hi hm hf ht hb' hfb hR
    have hil : i < G.length := by omega
    have F5 : mF m 14 = nI G.length := mF_of (by rw [hf 14 (by decide)]; exact hgn)
    have hv : vAt m 4 (3 * i) = gt G i := by rw [vAt_eq (hf 4 (by decide))]; exact hG.v0 hil
    have hbv := hb _ (gt_mem hil)
    rw [drop_gt hil] at hR
    unfold mxS at hR
    generalize gt G i = g at *
    have e0 : m 4 (3 * i) = g.1 := congrArg Prod.fst hv
    have e1 : m 4 (3 * i + 1) = g.2.1 := congrArg (fun v : V3 => v.2.1) hv
    have e2 : m 4 (3 * i + 2) = g.2.2 := congrArg (fun v : V3 => v.2.2) hv
    have pv1 := bd_mul2 hA hbv.2.1
    have pv2 := bd_mul2 hB hbv.2.2
    have hvb : bdI 1800 (A * g.2.1 + B * g.2.2) := ⟨by have := pv1.1; have := pv2.1; omega, by have := pv1.2; have := pv2.2; omega⟩
    have hw := bd30_in hbv.1
    have ev : (Int32.ofInt A).toInt64 * Int64.ofInt g.2.1 + (Int32.ofInt B).toInt64 * Int64.ofInt g.2.2 = Int64.ofInt (A * g.2.1 + B * g.2.2) := by rw [i32_l hA, i32_l hB]; exact oI_pd _ _ _ _
    generalize A * g.2.1 + B * g.2.2 = v at *
    have hvi : inL v := hvb.inL (by decide)
    -- on to the next
    have n211 : ∀ (m' : MM) (h' : PH) (f' : Bool) (t' b' : Int) (v10 : LV), MR m' D Z h' → Fx [18, 19] m0 m' → m' 18 0 = t' → m' 19 0 = b' → (f' = false → bdI 1800 t' ∧ bdI 30 b') → mxS A B (G.drop (i + 1)) f' t' b' = R →
        Runs (d + 1) call sc m_X4_maximum Q 211 [(0, .ref 60), (1, .int X), (2, .int (Int32.ofInt A)), (3, .int (Int32.ofInt B)), (4, .int (bI01 f')), (5, .int (nI i))] [] h' 0 0 := by
      intro m' h' f' t' b' _ hm' hf' ht' hb'' hfb' hR'
      refine go hc 2 (fun K hK => ?_)
      conv => whnf
      try simp only [nI_1]
      refine hK _ _ _ _ _ _ (Runs.less hc [0, 1, 2, 3, 4, 5] rfl rfl rfl rfl (ih (i + 1) m' h' f' t' b' (by omega) hm' hf' ht' hb'' hfb' hR'))
    have n181 : ¬ (g.1 = 0 ∧ 0 < v) → ¬ (g.1 = 0 ∨ (f = false ∧ v * b ≤ t * g.1)) → Runs (d + 1) call sc m_X4_maximum Q 181 [(0, .ref 60), (1, .int X), (2, .int (Int32.ofInt A)), (3, .int (Int32.ofInt B)), (4, .int (bI01 f)), (5, .int (nI i)), (6, .long (Int64.ofInt g.1)), (8, .long (Int64.ofInt v))] [] h 0 0 := fun n1 n2 => by
      rw [if_neg n1, if_neg n2] at hR
      have hg1 : Nat.gcd v.natAbs g.1.natAbs ≠ 0 := fun q => n2 (Or.inl (by have := (Nat.gcd_eq_zero_iff.mp q).2; omega))
      have hgi := gcd_inL hvi hw
      have hz : ¬ Int64.ofInt ((Nat.gcd v.natAbs g.1.natAbs : Nat) : Int) = 0 := fun q => by have := (oI_eq hgi inL_0).mp q; omega
      refine go hc 16 (fun K hK => ?_)
      conv => whnf
      refine ⟨Nat.le_of_ble_eq_true rfl, ?_⟩
      conv => whnf
      refine callee hc (e_divisor hvi hw ?_)
      conv => whnf
      refine ⟨hz, ?_⟩
      conv => whnf
      refine ⟨_, hm.M, Nat.le_of_ble_eq_true rfl, ?_⟩
      replace hm := hm.top (v := v.tdiv ((Nat.gcd v.natAbs g.1.natAbs : Nat) : Int)) (oI_div hvi hgi)
      conv => whnf
      refine ⟨hz, ?_⟩
      conv => whnf
      refine ⟨_, hm.M, Nat.le_of_ble_eq_true rfl, ?_⟩
      replace hm := hm.bot (v := g.1.tdiv ((Nat.gcd v.natAbs g.1.natAbs : Nat) : Int)) (oI_div hw hgi)
      conv => whnf
      try simp only [nI_1]
      refine hK _ _ _ _ _ _ (Runs.less hc [0, 1, 2, 3, 4, 5] rfl rfl rfl rfl (n211 _ _ false (v.tdiv ((Nat.gcd v.natAbs g.1.natAbs : Nat) : Int)) (g.1.tdiv ((Nat.gcd v.natAbs g.1.natAbs : Nat) : Int)) [] hm ((hf.mu (by decide)).mu (by decide)) rfl rfl (fun _ => ⟨tdiv_bd hvb, tdiv_bd hbv.1⟩) hR))
    have n148 : ¬ (g.1 = 0 ∧ 0 < v) → Runs (d + 1) call sc m_X4_maximum Q 148 [(0, .ref 60), (1, .int X), (2, .int (Int32.ofInt A)), (3, .int (Int32.ofInt B)), (4, .int (bI01 f)), (5, .int (nI i)), (6, .long (Int64.ofInt g.1)), (8, .long (Int64.ofInt v))] [] h 0 0 := fun n1 => by
      refine go hc 4 (fun K hK => ?_)
      conv => whnf
      by_cases c0 : g.1 = 0
      · rw [if_neg n1, if_pos (Or.inl c0)] at hR
        refine ⟨fun c_ => ?_, fun c_ => absurd ((kEq0 hw).mpr c0) c_⟩
        conv => whnf
        try simp only [nI_1]
        refine hK _ _ _ _ _ _ (Runs.less hc [0, 1, 2, 3, 4, 5] rfl rfl rfl rfl (n211 m h f t b [] hm hf ht hb' hfb hR))
      · refine ⟨fun c_ => absurd c_ (fun q => c0 ((kEq0 hw).mp q)), fun c_ => ?_⟩
        conv => whnf
        refine hK _ _ _ _ _ _ (go hc 2 (fun K hK => ?_))
        conv => whnf
        cases f with
        | true =>
          refine ⟨fun c_ => absurd c_ (by decide), fun c_ => ?_⟩
          conv => whnf
          try simp only [nI_1]
          refine hK _ _ _ _ _ _ (Runs.less hc [0, 1, 2, 3, 4, 5, 6, 8] rfl rfl rfl rfl (n181 n1 (fun q => q.elim c0 (fun z => by cases z.1))))
        | false =>
          obtain ⟨bt, bb⟩ := hfb rfl
          have p1 : inL (v * b) := (bd_mul2 hvb bb).inL (by decide)
          have p2 : inL (t * g.1) := (bd_mul2 bt hbv.1).inL (by decide)
          have e18 : mL m 18 0 = Int64.ofInt t := by unfold mL; rw [ht]
          have e19 : mL m 19 0 = Int64.ofInt b := by unfold mL; rw [hb']
          refine ⟨fun c_ => ?_, fun c_ => absurd (rfl) c_⟩
          conv => whnf
          refine hK _ _ _ _ _ _ (go hc 10 (fun K hK => ?_))
          conv => whnf
          refine ⟨_, _, hm.M, rfl, ?_⟩
          conv => whnf
          refine ⟨_, _, hm.M, rfl, ?_⟩
          conv => whnf
          rw [e18, e19, ← Int64.ofInt_mul, ← Int64.ofInt_mul]
          by_cases c1 : v * b ≤ t * g.1
          · rw [if_neg n1, if_pos (Or.inr ⟨rfl, c1⟩)] at hR
            refine ⟨fun c_ => absurd c_ (fun q => by have := (kGt p1 p2).mp q; omega), fun c_ => ?_⟩
            conv => whnf
            refine hK _ _ _ _ _ _ (go hc 1 (fun K hK => ?_))
            conv => whnf
            try simp only [nI_1]
            refine hK _ _ _ _ _ _ (Runs.less hc [0, 1, 2, 3, 4, 5] rfl rfl rfl rfl (n211 m h false t b [] hm hf ht hb' hfb hR))
          · refine ⟨fun c_ => ?_, fun c_ => absurd ((kGt p1 p2).mpr (by omega)) c_⟩
            conv => whnf
            try simp only [nI_1]
            refine hK _ _ _ _ _ _ (Runs.less hc [0, 1, 2, 3, 4, 5, 6, 8] rfl rfl rfl rfl (n181 n1 (fun q => q.elim c0 (fun z => c1 z.2))))
    refine go hc 4 (fun K hK => ?_)
    conv => whnf
    refine ⟨_, _, hm.M, rfl, ?_⟩
    rw [F5]
    conv => whnf
    refine ⟨fun c_ => absurd c_ (nI_ge hil (by omega)), fun c_ => ?_⟩
    conv => whnf
    refine hK _ _ _ _ _ _ (go hc 35 (fun K hK => ?_))
    conv => whnf
    refine ⟨_, _, hm.M, rfl, ?_⟩
    conv => whnf
    refine ⟨_, _, hm.L4, ixv (k := (3) * (i)) (im ((rfl : (3 : Int32) = nI 3)) ((rfl : nI (i) = nI (i)))) (by omega) (Nat.le_of_ble_eq_true rfl), ?_⟩
    rw [ixc (k := (3) * (i)) (im ((rfl : (3 : Int32) = nI 3)) ((rfl : nI (i) = nI (i)))) (by omega)]
    conv => whnf
    refine ⟨_, _, hm.M, rfl, ?_⟩
    conv => whnf
    refine ⟨_, _, hm.L4, ixv (k := ((3) * (i)) + (1)) (ia (im ((rfl : (3 : Int32) = nI 3)) ((rfl : nI (i) = nI (i)))) ((rfl : (1 : Int32) = nI 1))) (by omega) (Nat.le_of_ble_eq_true rfl), ?_⟩
    rw [ixc (k := ((3) * (i)) + (1)) (ia (im ((rfl : (3 : Int32) = nI 3)) ((rfl : nI (i) = nI (i)))) ((rfl : (1 : Int32) = nI 1))) (by omega)]
    conv => whnf
    refine ⟨_, _, hm.M, rfl, ?_⟩
    conv => whnf
    refine ⟨_, _, hm.L4, ixv (k := ((3) * (i)) + (2)) (ia (im ((rfl : (3 : Int32) = nI 3)) ((rfl : nI (i) = nI (i)))) ((rfl : (2 : Int32) = nI 2))) (by omega) (Nat.le_of_ble_eq_true rfl), ?_⟩
    rw [ixc (k := ((3) * (i)) + (2)) (ia (im ((rfl : (3 : Int32) = nI 3)) ((rfl : nI (i) = nI (i)))) ((rfl : (2 : Int32) = nI 2))) (by omega)]
    conv => whnf
    unfold mL
    rw [e0, e1, e2, ev]
    by_cases c0 : g.1 = 0
    · refine ⟨fun c_ => ?_, fun c_ => absurd ((kEq0 hw).mpr c0) c_⟩
      conv => whnf
      refine hK _ _ _ _ _ _ (go hc 4 (fun K hK => ?_))
      conv => whnf
      by_cases c1 : 0 < v
      · rw [if_pos ⟨c0, c1⟩] at hR
        have hR : (1, t, b) = R := hR
        subst hR
        refine ⟨fun c_ => absurd c_ (fun q => by have := (kLe0 hvi).mp q; omega), fun c_ => ?_⟩
        conv => whnf
        refine hK _ _ _ _ _ _ (go hc 2 (fun K hK => ?_))
        conv => whnf
        exact hQ m h hm hf ht hb' rfl
      · refine ⟨fun c_ => ?_, fun c_ => absurd ((kLe0 hvi).mpr (by omega)) c_⟩
        conv => whnf
        try simp only [nI_1]
        refine hK _ _ _ _ _ _ (Runs.less hc [0, 1, 2, 3, 4, 5, 6, 8] rfl rfl rfl rfl (n148 fun q => c1 q.2))
    · refine ⟨fun c_ => absurd c_ (fun q => c0 ((kEq0 hw).mp q)), fun c_ => ?_⟩
      conv => whnf
      try simp only [nI_1]
      refine hK _ _ _ _ _ _ (Runs.less hc [0, 1, 2, 3, 4, 5, 6, 8] rfl rfl rfl rfl (n148 fun q => c0 q.1))
theorem mxS_12 (A B : Int) : ∀ (G : List V3) (f : Bool) (t b : Int), (mxS A B G f t b).1 = 1 ∨ (mxS A B G f t b).1 = 2
  | [], _, _, _ => Or.inr rfl
  | g :: r, f, t, b => by
    unfold mxS
    split
    · exact Or.inl rfl
    · split
      · exact mxS_12 A B r _ _ _
      · exact mxS_12 A B r _ _ _
theorem e_maximum (hm : MR m D Z h) (hr : RZ m a) (hok : okS2 a) {x : Int32} (hQ : ∀ m' h', MR m' D Z h' → RZ m' (rMax a x).2.2 → m' 12 0 = ((rMax a x).1 : Int) → Q (.inl (some (.int (rMax a x).2.1))) h') : wpC sc (d + 3) 134 [.ref 60, .int x] h Q := by
  unfold rMax at hQ
  have hs6 := hok.2.2
  have q0 := hok.2.1 0 (by omega)
  have q1 := hok.2.1 1 (by omega)
  refine enter rfl rfl (fun call hc => go hc 6 (fun K hK => ?_))
  conv => whnf
  refine ⟨_, hm.M, Nat.le_of_ble_eq_true rfl, ?_⟩
  replace hm := hm.code (v := 0) rfl
  replace hr := hr.code 0
  have z0 : mu m 12 0 0 12 0 = 0 := mu_at _ _ _ _
  generalize mu m 12 0 0 = m1 at *
  conv => whnf
  refine ⟨Nat.le_of_ble_eq_true rfl, ?_⟩
  conv => whnf
  refine callee hc (e_isSlot ?_)
  conv => whnf
  cases hx : slotB x with
  | false =>
    rw [if_pos hx] at hQ
    refine ⟨fun c_ => ?_, fun c_ => absurd (rfl) c_⟩
    conv => whnf
    refine hK _ _ _ _ _ _ (go hc 4 (fun K hK => ?_))
    conv => whnf
    refine ⟨_, hm.M, Nat.le_of_ble_eq_true rfl, ?_⟩
    conv => whnf
    refine callee hc (e_fail hm (n := 1) rfl ?_)
    intro m2 h2 hm c2 f2
    conv => whnf
    exact hQ m2 h2 hm (hr.fx f2 (by decide) (by decide) (by decide) (by decide) (by decide) (by decide) (by decide)) c2
  | true =>
    rw [if_neg (by rw [hx]; decide)] at hQ
    obtain ⟨i, hi, he, hn⟩ := slot_nat hx
    subst he
    rw [hn] at hQ
    have F1 := hr.F1
    refine ⟨fun c_ => absurd c_ (by decide), fun c_ => ?_⟩
    conv => whnf
    refine hK _ _ _ _ _ _ ?_
    refine go hc 4 (fun K hK => ?_)
    conv => whnf
    refine ⟨_, _, hm.M, rfl, ?_⟩
    rw [F1]
    conv => whnf
    by_cases c2 : a.2.2.1 = 2
    · rw [if_neg (fun q => q c2)] at hQ
      have nn0 := hr.num (i := 0) (by omega)
      have nn1 := hr.num (i := 1) (by omega)
      refine ⟨fun c_ => ?_, fun c_ => absurd (by rw [c2]; rfl) c_⟩
      conv => whnf
      refine hK _ _ _ _ _ _ ?_
      refine go hc 20 (fun K hK => ?_)
      conv => whnf
      refine ⟨_, _, hm.M, rfl, ?_⟩
      conv => whnf
      refine Or.inr ⟨_, _, hm.I1, ixv (k := 0) ((rfl : (0 : Int32) = nI 0)) (by omega) (Nat.le_of_ble_eq_true rfl), ?_⟩
      rw [ixc (k := 0) ((rfl : (0 : Int32) = nI 0)) (by omega)]
      conv => whnf
      refine ⟨_, _, hm.M, rfl, ?_⟩
      conv => whnf
      refine Or.inr ⟨_, _, hm.I1, ixv (k := 1) ((rfl : (1 : Int32) = nI 1)) (by omega) (Nat.le_of_ble_eq_true rfl), ?_⟩
      rw [ixc (k := 1) ((rfl : (1 : Int32) = nI 1)) (by omega)]
      conv => whnf
      refine ⟨_, hm.M, Nat.le_of_ble_eq_true rfl, ?_⟩
      replace hm := hm.said (v := 0) rfl
      replace hr := hr.said
      have z1 : mu m1 13 0 0 12 0 = 0 := z0
      generalize mu m1 13 0 0 = m2 at *
      conv => whnf
      refine ⟨(by first | exact Or.inl rfl | exact Or.inr rfl), _, hm.M, Nat.le_of_ble_eq_true rfl, ?_⟩
      replace hm := hm.bnd (v := 0) rfl
      have hr3 : RZ (mu m2 17 0 0) (a.1, a.2.1, 0, false, a.2.2.2.2) := ⟨hr.1, hr.2.1, hr.2.2.1, rfl, hr.2.2.2.2.1, hr.2.2.2.2.2⟩
      have z3 : mu m2 17 0 0 12 0 = 0 := z1
      generalize mu m2 17 0 0 = m3 at *
      conv => whnf
      refine ⟨_, hm.M, Nat.le_of_ble_eq_true rfl, ?_⟩
      conv => whnf
      refine callee hc (e_isEmpty hm rfl hi (hr3.1 i 4 hi (by omega)) ?_)
      conv => whnf
      by_cases ce : a.1 i 4 = []
      · rw [if_pos ce] at hQ
        rw [decide_eq_true ce]
        refine ⟨fun c_ => absurd c_ (by decide), fun c_ => ?_⟩
        conv => whnf
        refine hK _ _ _ _ _ _ (go hc 2 (fun K hK => ?_))
        conv => whnf
        exact hQ m3 _ hm hr3 z3
      · rw [if_neg ce] at hQ
        rw [decide_eq_false ce]
        have len1 := gnL_len16 hr3.1 (C := []) hi
        rw [List.length_nil] at len1
        refine ⟨fun c_ => ?_, fun c_ => absurd (rfl) c_⟩
        conv => whnf
        refine hK _ _ _ _ _ _ ?_
        rw [nn0, nn1]
        refine go hc 9 (fun K hK => ?_)
        conv => whnf
        refine ⟨_, hm.M, Nat.le_of_ble_eq_true rfl, ?_⟩
        conv => whnf
        refine callee hc (e_begin hm ?_)
        intro m4 h4 hm g4 k4 d4 f4
        have hr4 := hr3.fx f4 (by decide) (by decide) (by decide) (by decide) (by decide) (by decide) (by decide)
        conv => whnf
        refine ⟨_, hm.M, Nat.le_of_ble_eq_true rfl, ?_⟩
        conv => whnf
        refine callee hc (e_takeG (G := []) hm rfl hi hr4.1 hok.1 (fun i hi => absurd hi (Nat.not_lt_zero _)) g4 (by simp) ?_)
        intro m5 h5 hm r5 n5 f5
        have hr5 := hr4.fx f5 (by decide) (by decide) (by decide) (by decide) (by decide) (by decide) (by decide)
        conv => whnf
        have z5 : m5 12 0 = 0 := by rw [f5 12 (by decide), f4 12 (by decide)]; exact z3
        have hbd := gnL_bd hok.1 hi
        generalize agL [] (gnL a.1 i) = G at *
        have frame : ∀ (m' : MM) (R : Nat × Int × Int), Fx [18, 19] m5 m' → m' 18 0 = R.2.1 → m' 19 0 = R.2.2 → RZ m' (a.1, a.2.1, 0, false, R.2) := fun m' R f' t' b' =>
          ⟨hr5.1.fx f' (by decide) (by decide), fun i hi => by rw [f' 1 (by decide)]; exact hr5.2.1 i hi, by rw [f' 13 (by decide)]; exact hr5.2.2.1, by rw [f' 17 (by decide)]; exact hr5.2.2.2.1, t', b'⟩
        try simp only [nI_1]
        refine hK _ _ _ _ _ _ (Runs.less hc [0, 1, 2, 3, 4, 5] rfl rfl rfl rfl (mx_loop (Q := qth _ Q) hc q0 q1 r5 n5 (by omega) hbd (R := mxR a G) (fun m' h' hm' f' t' b' e1 => ?_) (fun m' h' hm' f' t' b' e2 => ?_) G.length 0 m5 h5 true _ _ (by omega) hm Fx.refl hr5.2.2.2.2.1 hr5.2.2.2.2.2 (fun q => by cases q) rfl))
        · have := hQ m' h' hm'
          rw [e1] at this
          exact this (frame m' _ f' t' b') (by rw [f' 12 (by decide)]; exact z5)
        · have := frame m' _ f' t' b'
          have hm := hm'
          refine go hc 5 (fun K hK => ?_)
          conv => whnf
          refine ⟨(by first | exact Or.inl rfl | exact Or.inr rfl), _, hm.M, Nat.le_of_ble_eq_true rfl, ?_⟩
          replace hm := hm.bnd (v := 1) rfl
          conv => whnf
          have hq := hQ _ _ hm
          rw [e2] at hq
          exact hq ⟨this.1, this.2.1, this.2.2.1, rfl, this.2.2.2.2.1, this.2.2.2.2.2⟩ (by show m' 12 0 = 0; rw [f' 12 (by decide)]; exact z5)
    · rw [if_pos c2] at hQ
      refine ⟨fun c_ => absurd c_ ((fun q => c2 ((nI_eq (by omega) (by decide)).mp q))), fun c_ => ?_⟩
      conv => whnf
      refine hK _ _ _ _ _ _ (go hc 4 (fun K hK => ?_))
      conv => whnf
      refine ⟨_, hm.M, Nat.le_of_ble_eq_true rfl, ?_⟩
      conv => whnf
      refine callee hc (e_fail hm (n := 2) rfl ?_)
      intro m2 h2 hm c2 f2
      conv => whnf
      exact hQ m2 h2 hm (hr.fx f2 (by decide) (by decide) (by decide) (by decide) (by decide) (by decide) (by decide)) c2
end EHOLD
