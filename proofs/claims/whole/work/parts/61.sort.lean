/-! the reference's order -/
def aft (k : Nat) (u v : V3) : Bool :=
  if k = 4 then (if u.2.1 * v.1 = v.2.1 * u.1 then decide (v.2.2 * u.1 < u.2.2 * v.1) else decide (v.2.1 * u.1 < u.2.1 * v.1))
  else if u.2.1 = v.2.1 then (if u.2.2 = v.2.2 then decide (v.1 < u.1) else decide (v.2.2 < u.2.2)) else decide (v.2.1 < u.2.1)
def snk (k : Nat) : Nat → List V3 → List V3
  | 0, l => l
  | j + 1, l => if aft k (gt l j) (gt l (j + 1)) = true then snk k j (swp l (j + 1) j) else l
def srK (k : Nat) : Nat → Nat → List V3 → List V3
  | 0, _, l => l
  | n + 1, i, l => srK k n (i + 1) (snk k i l)
def sortK (k : Nat) (l : List V3) : List V3 := srK k (l.length - 1) 1 l
theorem bd30_in {a : Int} (h : bdI 30 a) : inL a := h.inL (by decide)
theorem bd30_p {a b : Int} (h : bdI 30 a) (g : bdI 30 b) : inL (a * b) := (bd_mul2 h g).inL (by decide)
section ESORT
variable {sc : Scr} {d : Nat} {m : MM} {D Z h : PH} {Q : Out → PH → Prop} {l : List V3}
theorem e_isAfter (hm : MR m D Z h) {k p q : Nat} {X P P' : Int32} (hX : X = nI k) (hk : k < 5) (hP : P = nI p) (hP' : P' = nI q) (hp : p + 2 < 9000) (hq : q + 2 < 9000) {u v : V3} (hu : vAt m 11 p = u) (hv : vAt m 11 q = v) (bu : bdV 30 u) (bv : bdV 30 v)
    (hQ : Q (.inl (some (.int (bI01 (aft k u v))))) h) : wpC sc (d + 1) 117 [.ref 60, .int X, .int P, .int P'] h Q := by
  subst hX; subst hP; subst hP'
  have u0 : m 11 p = u.1 := congrArg Prod.fst hu
  have u1 : m 11 (p + 1) = u.2.1 := congrArg (fun v : V3 => v.2.1) hu
  have u2 : m 11 (p + 2) = u.2.2 := congrArg (fun v : V3 => v.2.2) hu
  have v0 : m 11 q = v.1 := congrArg Prod.fst hv
  have v1 : m 11 (q + 1) = v.2.1 := congrArg (fun v : V3 => v.2.1) hv
  have v2 : m 11 (q + 2) = v.2.2 := congrArg (fun v : V3 => v.2.2) hv
  unfold aft at hQ
  refine enter rfl rfl (fun call hc => go hc 3 (fun K hK => ?_))
  conv => whnf
  by_cases c : k = 4
  · rw [if_pos c] at hQ
    refine ⟨fun c_ => ?_, fun c_ => absurd (by rw [c]; rfl) c_⟩
    conv => whnf
    refine hK _ _ _ _ _ _ (go hc 28 (fun K hK => ?_))
    conv => whnf
    refine ⟨_, _, hm.M, rfl, ?_⟩
    conv => whnf
    refine ⟨_, _, hm.L11, ixv (k := (p) + (1)) (ia ((rfl : nI (p) = nI (p))) ((rfl : (1 : Int32) = nI 1))) (by omega) (Nat.le_of_ble_eq_true rfl), ?_⟩
    rw [ixc (k := (p) + (1)) (ia ((rfl : nI (p) = nI (p))) ((rfl : (1 : Int32) = nI 1))) (by omega)]
    conv => whnf
    refine ⟨_, _, hm.M, rfl, ?_⟩
    conv => whnf
    refine ⟨_, _, hm.L11, ixv (k := q) ((rfl : nI (q) = nI (q))) (by omega) (Nat.le_of_ble_eq_true rfl), ?_⟩
    rw [ixc (k := q) ((rfl : nI (q) = nI (q))) (by omega)]
    conv => whnf
    refine ⟨_, _, hm.M, rfl, ?_⟩
    conv => whnf
    refine ⟨_, _, hm.L11, ixv (k := (q) + (1)) (ia ((rfl : nI (q) = nI (q))) ((rfl : (1 : Int32) = nI 1))) (by omega) (Nat.le_of_ble_eq_true rfl), ?_⟩
    rw [ixc (k := (q) + (1)) (ia ((rfl : nI (q) = nI (q))) ((rfl : (1 : Int32) = nI 1))) (by omega)]
    conv => whnf
    refine ⟨_, _, hm.M, rfl, ?_⟩
    conv => whnf
    refine ⟨_, _, hm.L11, ixv (k := p) ((rfl : nI (p) = nI (p))) (by omega) (Nat.le_of_ble_eq_true rfl), ?_⟩
    rw [ixc (k := p) ((rfl : nI (p) = nI (p))) (by omega)]
    conv => whnf
    unfold mL
    rw [u0, u1, v0, v1, ← Int64.ofInt_mul, ← Int64.ofInt_mul]
    have i1 := bd30_p bu.2.1 bv.1
    have i2 := bd30_p bv.2.1 bu.1
    have i3 := bd30_p bu.2.2 bv.1
    have i4 := bd30_p bv.2.2 bu.1
    by_cases c1 : u.2.1 * v.1 = v.2.1 * u.1
    · rw [if_pos c1] at hQ
      refine ⟨fun c_ => ?_, fun c_ => absurd ((kEq i1 i2).mpr c1) c_⟩
      conv => whnf
      refine hK _ _ _ _ _ _ ?_
      refine go hc 24 (fun K hK => ?_)
      conv => whnf
      refine ⟨_, _, hm.M, rfl, ?_⟩
      conv => whnf
      refine ⟨_, _, hm.L11, ixv (k := (p) + (2)) (ia ((rfl : nI (p) = nI (p))) ((rfl : (2 : Int32) = nI 2))) (by omega) (Nat.le_of_ble_eq_true rfl), ?_⟩
      rw [ixc (k := (p) + (2)) (ia ((rfl : nI (p) = nI (p))) ((rfl : (2 : Int32) = nI 2))) (by omega)]
      conv => whnf
      refine ⟨_, _, hm.M, rfl, ?_⟩
      conv => whnf
      refine ⟨_, _, hm.L11, ixv (k := q) ((rfl : nI (q) = nI (q))) (by omega) (Nat.le_of_ble_eq_true rfl), ?_⟩
      rw [ixc (k := q) ((rfl : nI (q) = nI (q))) (by omega)]
      conv => whnf
      refine ⟨_, _, hm.M, rfl, ?_⟩
      conv => whnf
      refine ⟨_, _, hm.L11, ixv (k := (q) + (2)) (ia ((rfl : nI (q) = nI (q))) ((rfl : (2 : Int32) = nI 2))) (by omega) (Nat.le_of_ble_eq_true rfl), ?_⟩
      rw [ixc (k := (q) + (2)) (ia ((rfl : nI (q) = nI (q))) ((rfl : (2 : Int32) = nI 2))) (by omega)]
      conv => whnf
      refine ⟨_, _, hm.M, rfl, ?_⟩
      conv => whnf
      refine ⟨_, _, hm.L11, ixv (k := p) ((rfl : nI (p) = nI (p))) (by omega) (Nat.le_of_ble_eq_true rfl), ?_⟩
      rw [ixc (k := p) ((rfl : nI (p) = nI (p))) (by omega)]
      conv => whnf
      unfold mL
      rw [u0, u2, v0, v2, ← Int64.ofInt_mul, ← Int64.ofInt_mul]
      by_cases c2 : v.2.2 * u.1 < u.2.2 * v.1
      · rw [decide_eq_true c2] at hQ
        refine ⟨fun c_ => absurd c_ (fun z => by have := (kLe i3 i4).mp z; omega), fun c_ => ?_⟩
        conv => whnf
        refine hK _ _ _ _ _ _ (go hc 2 (fun K hK => ?_))
        conv => whnf
        refine hK _ _ _ _ _ _ ?_
        refine go hc 1 (fun K hK => ?_)
        conv => whnf
        exact ⟨Or.inr rfl, hQ⟩
      · rw [decide_eq_false c2] at hQ
        refine ⟨fun c_ => ?_, fun c_ => absurd ((kLe i3 i4).mpr (by omega)) c_⟩
        conv => whnf
        refine hK _ _ _ _ _ _ ?_
        refine go hc 1 (fun K hK => ?_)
        conv => whnf
        refine hK _ _ _ _ _ _ ?_
        refine go hc 1 (fun K hK => ?_)
        conv => whnf
        exact ⟨Or.inl rfl, hQ⟩
    · rw [if_neg c1] at hQ
      refine ⟨fun c_ => absurd c_ (fun z => c1 ((kEq i1 i2).mp z)), fun c_ => ?_⟩
      conv => whnf
      refine hK _ _ _ _ _ _ (go hc 4 (fun K hK => ?_))
      conv => whnf
      by_cases c2 : v.2.1 * u.1 < u.2.1 * v.1
      · rw [decide_eq_true c2] at hQ
        refine ⟨fun c_ => absurd c_ (fun z => by have := (kLe i1 i2).mp z; omega), fun c_ => ?_⟩
        conv => whnf
        refine hK _ _ _ _ _ _ (go hc 2 (fun K hK => ?_))
        conv => whnf
        refine hK _ _ _ _ _ _ ?_
        refine go hc 1 (fun K hK => ?_)
        conv => whnf
        exact ⟨Or.inr rfl, hQ⟩
      · rw [decide_eq_false c2] at hQ
        refine ⟨fun c_ => ?_, fun c_ => absurd ((kLe i1 i2).mpr (by omega)) c_⟩
        conv => whnf
        refine hK _ _ _ _ _ _ ?_
        refine go hc 1 (fun K hK => ?_)
        conv => whnf
        refine hK _ _ _ _ _ _ ?_
        refine go hc 1 (fun K hK => ?_)
        conv => whnf
        exact ⟨Or.inl rfl, hQ⟩
  · rw [if_neg c] at hQ
    refine ⟨fun c_ => absurd c_ (fun z => c ((nI_eq (by omega) (by decide)).mp z)), fun c_ => ?_⟩
    conv => whnf
    refine hK _ _ _ _ _ _ ?_
    refine go hc 5 (fun K hK => ?_)
    conv => whnf
    refine ⟨fun c_ => absurd c_ (by decide), fun c_ => ?_⟩
    conv => whnf
    refine hK _ _ _ _ _ _ (go hc 14 (fun K hK => ?_))
    conv => whnf
    refine ⟨_, _, hm.M, rfl, ?_⟩
    conv => whnf
    refine ⟨_, _, hm.L11, ixv (k := (p) + (1)) (ia ((rfl : nI (p) = nI (p))) ((rfl : (1 : Int32) = nI 1))) (by omega) (Nat.le_of_ble_eq_true rfl), ?_⟩
    rw [ixc (k := (p) + (1)) (ia ((rfl : nI (p) = nI (p))) ((rfl : (1 : Int32) = nI 1))) (by omega)]
    conv => whnf
    refine ⟨_, _, hm.M, rfl, ?_⟩
    conv => whnf
    refine ⟨_, _, hm.L11, ixv (k := (q) + (1)) (ia ((rfl : nI (q) = nI (q))) ((rfl : (1 : Int32) = nI 1))) (by omega) (Nat.le_of_ble_eq_true rfl), ?_⟩
    rw [ixc (k := (q) + (1)) (ia ((rfl : nI (q) = nI (q))) ((rfl : (1 : Int32) = nI 1))) (by omega)]
    conv => whnf
    unfold mL
    rw [u1, v1]
    by_cases c1 : u.2.1 = v.2.1
    · rw [if_pos c1] at hQ
      refine ⟨fun c_ => ?_, fun c_ => absurd ((kEq (bd30_in bu.2.1) (bd30_in bv.2.1)).mpr c1) c_⟩
      conv => whnf
      refine hK _ _ _ _ _ _ ?_
      refine go hc 5 (fun K hK => ?_)
      conv => whnf
      refine ⟨fun c_ => absurd c_ (by decide), fun c_ => ?_⟩
      conv => whnf
      refine hK _ _ _ _ _ _ (go hc 14 (fun K hK => ?_))
      conv => whnf
      refine ⟨_, _, hm.M, rfl, ?_⟩
      conv => whnf
      refine ⟨_, _, hm.L11, ixv (k := (p) + (1 + 1)) (ia ((rfl : nI (p) = nI (p))) (ia ((rfl : (1 : Int32) = nI 1)) (rfl : (1 : Int32) = nI 1))) (by omega) (Nat.le_of_ble_eq_true rfl), ?_⟩
      rw [ixc (k := (p) + (1 + 1)) (ia ((rfl : nI (p) = nI (p))) (ia ((rfl : (1 : Int32) = nI 1)) (rfl : (1 : Int32) = nI 1))) (by omega)]
      conv => whnf
      refine ⟨_, _, hm.M, rfl, ?_⟩
      conv => whnf
      refine ⟨_, _, hm.L11, ixv (k := (q) + (1 + 1)) (ia ((rfl : nI (q) = nI (q))) (ia ((rfl : (1 : Int32) = nI 1)) (rfl : (1 : Int32) = nI 1))) (by omega) (Nat.le_of_ble_eq_true rfl), ?_⟩
      rw [ixc (k := (q) + (1 + 1)) (ia ((rfl : nI (q) = nI (q))) (ia ((rfl : (1 : Int32) = nI 1)) (rfl : (1 : Int32) = nI 1))) (by omega)]
      conv => whnf
      unfold mL
      rw [show m 11 (p + (1 + 1)) = u.2.2 from u2, show m 11 (q + (1 + 1)) = v.2.2 from v2]
      by_cases c2 : u.2.2 = v.2.2
      · rw [if_pos c2] at hQ
        refine ⟨fun c_ => ?_, fun c_ => absurd ((kEq (bd30_in bu.2.2) (bd30_in bv.2.2)).mpr c2) c_⟩
        conv => whnf
        refine hK _ _ _ _ _ _ ?_
        refine go hc 5 (fun K hK => ?_)
        conv => whnf
        refine ⟨fun c_ => ?_, fun c_ => absurd (by decide) c_⟩
        conv => whnf
        refine hK _ _ _ _ _ _ ?_
        refine go hc 10 (fun K hK => ?_)
        conv => whnf
        refine ⟨_, _, hm.M, rfl, ?_⟩
        conv => whnf
        refine ⟨_, _, hm.L11, ixv (k := p) ((rfl : nI (p) = nI (p))) (by omega) (Nat.le_of_ble_eq_true rfl), ?_⟩
        rw [ixc (k := p) ((rfl : nI (p) = nI (p))) (by omega)]
        conv => whnf
        refine ⟨_, _, hm.M, rfl, ?_⟩
        conv => whnf
        refine ⟨_, _, hm.L11, ixv (k := q) ((rfl : nI (q) = nI (q))) (by omega) (Nat.le_of_ble_eq_true rfl), ?_⟩
        rw [ixc (k := q) ((rfl : nI (q) = nI (q))) (by omega)]
        conv => whnf
        unfold mL
        rw [u0, v0]
        by_cases c3 : v.1 < u.1
        · rw [decide_eq_true c3] at hQ
          refine ⟨fun c_ => absurd c_ (fun z => by have := (kLe (bd30_in bu.1) (bd30_in bv.1)).mp z; omega), fun c_ => ?_⟩
          conv => whnf
          refine hK _ _ _ _ _ _ (go hc 2 (fun K hK => ?_))
          conv => whnf
          refine hK _ _ _ _ _ _ ?_
          refine go hc 1 (fun K hK => ?_)
          conv => whnf
          exact ⟨Or.inr rfl, hQ⟩
        · rw [decide_eq_false c3] at hQ
          refine ⟨fun c_ => ?_, fun c_ => absurd ((kLe (bd30_in bu.1) (bd30_in bv.1)).mpr (by omega)) c_⟩
          conv => whnf
          refine hK _ _ _ _ _ _ ?_
          refine go hc 1 (fun K hK => ?_)
          conv => whnf
          refine hK _ _ _ _ _ _ ?_
          refine go hc 1 (fun K hK => ?_)
          conv => whnf
          exact ⟨Or.inl rfl, hQ⟩
      · rw [if_neg c2] at hQ
        refine ⟨fun c_ => absurd c_ (fun z => c2 ((kEq (bd30_in bu.2.2) (bd30_in bv.2.2)).mp z)), fun c_ => ?_⟩
        conv => whnf
        refine hK _ _ _ _ _ _ (go hc 14 (fun K hK => ?_))
        conv => whnf
        refine ⟨_, _, hm.M, rfl, ?_⟩
        conv => whnf
        refine ⟨_, _, hm.L11, ixv (k := (p) + (1 + 1)) (ia ((rfl : nI (p) = nI (p))) (ia ((rfl : (1 : Int32) = nI 1)) (rfl : (1 : Int32) = nI 1))) (by omega) (Nat.le_of_ble_eq_true rfl), ?_⟩
        rw [ixc (k := (p) + (1 + 1)) (ia ((rfl : nI (p) = nI (p))) (ia ((rfl : (1 : Int32) = nI 1)) (rfl : (1 : Int32) = nI 1))) (by omega)]
        conv => whnf
        refine ⟨_, _, hm.M, rfl, ?_⟩
        conv => whnf
        refine ⟨_, _, hm.L11, ixv (k := (q) + (1 + 1)) (ia ((rfl : nI (q) = nI (q))) (ia ((rfl : (1 : Int32) = nI 1)) (rfl : (1 : Int32) = nI 1))) (by omega) (Nat.le_of_ble_eq_true rfl), ?_⟩
        rw [ixc (k := (q) + (1 + 1)) (ia ((rfl : nI (q) = nI (q))) (ia ((rfl : (1 : Int32) = nI 1)) (rfl : (1 : Int32) = nI 1))) (by omega)]
        conv => whnf
        unfold mL
        rw [show m 11 (p + (1 + 1)) = u.2.2 from u2, show m 11 (q + (1 + 1)) = v.2.2 from v2]
        by_cases c3 : v.2.2 < u.2.2
        · rw [decide_eq_true c3] at hQ
          refine ⟨fun c_ => absurd c_ (fun z => by have := (kLe (bd30_in bu.2.2) (bd30_in bv.2.2)).mp z; omega), fun c_ => ?_⟩
          conv => whnf
          refine hK _ _ _ _ _ _ (go hc 2 (fun K hK => ?_))
          conv => whnf
          refine hK _ _ _ _ _ _ ?_
          refine go hc 1 (fun K hK => ?_)
          conv => whnf
          exact ⟨Or.inr rfl, hQ⟩
        · rw [decide_eq_false c3] at hQ
          refine ⟨fun c_ => ?_, fun c_ => absurd ((kLe (bd30_in bu.2.2) (bd30_in bv.2.2)).mpr (by omega)) c_⟩
          conv => whnf
          refine hK _ _ _ _ _ _ ?_
          refine go hc 1 (fun K hK => ?_)
          conv => whnf
          refine hK _ _ _ _ _ _ ?_
          refine go hc 1 (fun K hK => ?_)
          conv => whnf
          exact ⟨Or.inl rfl, hQ⟩
    · rw [if_neg c1] at hQ
      refine ⟨fun c_ => absurd c_ (fun z => c1 ((kEq (bd30_in bu.2.1) (bd30_in bv.2.1)).mp z)), fun c_ => ?_⟩
      conv => whnf
      refine hK _ _ _ _ _ _ (go hc 14 (fun K hK => ?_))
      conv => whnf
      refine ⟨_, _, hm.M, rfl, ?_⟩
      conv => whnf
      refine ⟨_, _, hm.L11, ixv (k := (p) + (1)) (ia ((rfl : nI (p) = nI (p))) ((rfl : (1 : Int32) = nI 1))) (by omega) (Nat.le_of_ble_eq_true rfl), ?_⟩
      rw [ixc (k := (p) + (1)) (ia ((rfl : nI (p) = nI (p))) ((rfl : (1 : Int32) = nI 1))) (by omega)]
      conv => whnf
      refine ⟨_, _, hm.M, rfl, ?_⟩
      conv => whnf
      refine ⟨_, _, hm.L11, ixv (k := (q) + (1)) (ia ((rfl : nI (q) = nI (q))) ((rfl : (1 : Int32) = nI 1))) (by omega) (Nat.le_of_ble_eq_true rfl), ?_⟩
      rw [ixc (k := (q) + (1)) (ia ((rfl : nI (q) = nI (q))) ((rfl : (1 : Int32) = nI 1))) (by omega)]
      conv => whnf
      unfold mL
      rw [u1, v1]
      by_cases c2 : v.2.1 < u.2.1
      · rw [decide_eq_true c2] at hQ
        refine ⟨fun c_ => absurd c_ (fun z => by have := (kLe (bd30_in bu.2.1) (bd30_in bv.2.1)).mp z; omega), fun c_ => ?_⟩
        conv => whnf
        refine hK _ _ _ _ _ _ (go hc 2 (fun K hK => ?_))
        conv => whnf
        refine hK _ _ _ _ _ _ ?_
        refine go hc 1 (fun K hK => ?_)
        conv => whnf
        exact ⟨Or.inr rfl, hQ⟩
      · rw [decide_eq_false c2] at hQ
        refine ⟨fun c_ => ?_, fun c_ => absurd ((kLe (bd30_in bu.2.1) (bd30_in bv.2.1)).mpr (by omega)) c_⟩
        conv => whnf
        refine hK _ _ _ _ _ _ ?_
        refine go hc 1 (fun K hK => ?_)
        conv => whnf
        refine hK _ _ _ _ _ _ ?_
        refine go hc 1 (fun K hK => ?_)
        conv => whnf
        exact ⟨Or.inl rfl, hQ⟩
/-- two rows change places -/
theorem sw_rows {call : Callee} (hc : call = wpC sc (d + 1)) (hm : MR m D Z h) {k j : Nat} (hk : k < 5) {i0 : Int32} (hj : j + 1 < 600)
    (hQ : ∀ m' h', MR m' D Z h' → vAt m' 11 (1800 * k + 3 * (j + 1)) = vAt m 11 (1800 * k + 3 * j) → vAt m' 11 (1800 * k + 3 * j) = vAt m 11 (1800 * k + 3 * (j + 1)) → (∀ x, (x < 1800 * k + 3 * j ∨ 1800 * k + 3 * j + 5 < x) → m' 11 x = m 11 x) → Fx [11] m m' → Runs (d + 1) call sc m_X4_sort Q 119 [(0, .ref 60), (1, .int (nI k)), (2, .int i0), (3, .int (nI (j + 1)))] [] h' 0 0) :
    Runs (d + 1) call sc m_X4_sort Q 40 [(0, .ref 60), (1, .int (nI k)), (2, .int i0), (3, .int (nI (j + 1)))] [] h 0 0 := by
  obtain ⟨a, ha⟩ : ∃ a, a = 1800 * k + 3 * (j + 1) := ⟨_, rfl⟩
  obtain ⟨b, hb⟩ : ∃ b, b = 1800 * k + 3 * j := ⟨_, rfl⟩
  rw [← ha, ← hb] at hQ
  refine go hc 5 (fun K hK => ?_)
  conv => whnf
  refine ⟨fun c_ => absurd c_ (by decide), fun c_ => ?_⟩
  conv => whnf
  refine hK _ _ _ _ _ _ (go hc 47 (fun K hK => ?_))
  conv => whnf
  refine ⟨_, _, hm.M, rfl, ?_⟩
  conv => whnf
  refine ⟨_, hm.M, Nat.le_of_ble_eq_true rfl, ?_⟩
  conv => whnf
  refine callee hc (e_place (k := k) (i := j + 1) rfl rfl ?_)
  rw [← ha]
  conv => whnf
  refine ⟨_, _, hm.L11, ixv (k := (a) + (0)) (ia ((rfl : nI (a) = nI (a))) ((rfl : (0 : Int32) = nI 0))) (by omega) (Nat.le_of_ble_eq_true rfl), ?_⟩
  rw [ixc (k := (a) + (0)) (ia ((rfl : nI (a) = nI (a))) ((rfl : (0 : Int32) = nI 0))) (by omega)]
  conv => whnf
  refine ⟨_, _, hm.M, rfl, ?_⟩
  conv => whnf
  refine ⟨_, hm.M, Nat.le_of_ble_eq_true rfl, ?_⟩
  conv => whnf
  refine callee hc (e_place (k := k) (i := j + 1) rfl rfl ?_)
  rw [← ha]
  conv => whnf
  refine ⟨_, _, hm.M, rfl, ?_⟩
  conv => whnf
  refine ⟨_, hm.M, Nat.le_of_ble_eq_true rfl, ?_⟩
  conv => whnf
  refine callee hc (e_place (k := k) (i := j) rfl (nI_pred j) ?_)
  rw [← hb]
  conv => whnf
  refine ⟨_, _, hm.L11, ixv (k := (b) + (0)) (ia ((rfl : nI (b) = nI (b))) ((rfl : (0 : Int32) = nI 0))) (by omega) (Nat.le_of_ble_eq_true rfl), ?_⟩
  rw [ixc (k := (b) + (0)) (ia ((rfl : nI (b) = nI (b))) ((rfl : (0 : Int32) = nI 0))) (by omega)]
  conv => whnf
  refine ⟨_, _, hm.L11, ixv (k := (a) + (0)) (ia ((rfl : nI (a) = nI (a))) ((rfl : (0 : Int32) = nI 0))) (by omega) (Nat.le_of_ble_eq_true rfl), ?_⟩
  rw [ixc (k := (a) + (0)) (ia ((rfl : nI (a) = nI (a))) ((rfl : (0 : Int32) = nI 0))) (by omega)]
  replace hm := hm.sL (a := 11) (i := (a) + (0)) (by decide) ((rfl : mL m 11 (b + 0) = Int64.ofInt (m 11 (b + 0))))
  generalize hg1 : mu m 11 _ _ = m1 at hm
  conv => whnf
  refine ⟨_, _, hm.M, rfl, ?_⟩
  conv => whnf
  refine ⟨_, hm.M, Nat.le_of_ble_eq_true rfl, ?_⟩
  conv => whnf
  refine callee hc (e_place (k := k) (i := j) rfl (nI_pred j) ?_)
  rw [← hb]
  conv => whnf
  refine ⟨_, _, hm.L11, ixv (k := (b) + (0)) (ia ((rfl : nI (b) = nI (b))) ((rfl : (0 : Int32) = nI 0))) (by omega) (Nat.le_of_ble_eq_true rfl), ?_⟩
  rw [ixc (k := (b) + (0)) (ia ((rfl : nI (b) = nI (b))) ((rfl : (0 : Int32) = nI 0))) (by omega)]
  replace hm := hm.sL (a := 11) (i := (b) + (0)) (by decide) ((rfl : mL m 11 (a + 0) = Int64.ofInt (m 11 (a + 0))))
  generalize hg2 : mu m1 11 _ _ = m2 at hm
  conv => whnf
  refine ⟨fun c_ => absurd c_ (by decide), fun c_ => ?_⟩
  conv => whnf
  refine hK _ _ _ _ _ _ (go hc 47 (fun K hK => ?_))
  conv => whnf
  refine ⟨_, _, hm.M, rfl, ?_⟩
  conv => whnf
  refine ⟨_, hm.M, Nat.le_of_ble_eq_true rfl, ?_⟩
  conv => whnf
  refine callee hc (e_place (k := k) (i := j + 1) rfl rfl ?_)
  rw [← ha]
  conv => whnf
  refine ⟨_, _, hm.L11, ixv (k := (a) + (0 + 1)) (ia ((rfl : nI (a) = nI (a))) (ia ((rfl : (0 : Int32) = nI 0)) (rfl : (1 : Int32) = nI 1))) (by omega) (Nat.le_of_ble_eq_true rfl), ?_⟩
  rw [ixc (k := (a) + (0 + 1)) (ia ((rfl : nI (a) = nI (a))) (ia ((rfl : (0 : Int32) = nI 0)) (rfl : (1 : Int32) = nI 1))) (by omega)]
  conv => whnf
  refine ⟨_, _, hm.M, rfl, ?_⟩
  conv => whnf
  refine ⟨_, hm.M, Nat.le_of_ble_eq_true rfl, ?_⟩
  conv => whnf
  refine callee hc (e_place (k := k) (i := j + 1) rfl rfl ?_)
  rw [← ha]
  conv => whnf
  refine ⟨_, _, hm.M, rfl, ?_⟩
  conv => whnf
  refine ⟨_, hm.M, Nat.le_of_ble_eq_true rfl, ?_⟩
  conv => whnf
  refine callee hc (e_place (k := k) (i := j) rfl (nI_pred j) ?_)
  rw [← hb]
  conv => whnf
  refine ⟨_, _, hm.L11, ixv (k := (b) + (0 + 1)) (ia ((rfl : nI (b) = nI (b))) (ia ((rfl : (0 : Int32) = nI 0)) (rfl : (1 : Int32) = nI 1))) (by omega) (Nat.le_of_ble_eq_true rfl), ?_⟩
  rw [ixc (k := (b) + (0 + 1)) (ia ((rfl : nI (b) = nI (b))) (ia ((rfl : (0 : Int32) = nI 0)) (rfl : (1 : Int32) = nI 1))) (by omega)]
  conv => whnf
  refine ⟨_, _, hm.L11, ixv (k := (a) + (0 + 1)) (ia ((rfl : nI (a) = nI (a))) (ia ((rfl : (0 : Int32) = nI 0)) (rfl : (1 : Int32) = nI 1))) (by omega) (Nat.le_of_ble_eq_true rfl), ?_⟩
  rw [ixc (k := (a) + (0 + 1)) (ia ((rfl : nI (a) = nI (a))) (ia ((rfl : (0 : Int32) = nI 0)) (rfl : (1 : Int32) = nI 1))) (by omega)]
  replace hm := hm.sL (a := 11) (i := (a) + (0 + 1)) (by decide) ((rfl : mL m2 11 (b + (0 + 1)) = Int64.ofInt (m2 11 (b + (0 + 1)))))
  generalize hg3 : mu m2 11 _ _ = m3 at hm
  conv => whnf
  refine ⟨_, _, hm.M, rfl, ?_⟩
  conv => whnf
  refine ⟨_, hm.M, Nat.le_of_ble_eq_true rfl, ?_⟩
  conv => whnf
  refine callee hc (e_place (k := k) (i := j) rfl (nI_pred j) ?_)
  rw [← hb]
  conv => whnf
  refine ⟨_, _, hm.L11, ixv (k := (b) + (0 + 1)) (ia ((rfl : nI (b) = nI (b))) (ia ((rfl : (0 : Int32) = nI 0)) (rfl : (1 : Int32) = nI 1))) (by omega) (Nat.le_of_ble_eq_true rfl), ?_⟩
  rw [ixc (k := (b) + (0 + 1)) (ia ((rfl : nI (b) = nI (b))) (ia ((rfl : (0 : Int32) = nI 0)) (rfl : (1 : Int32) = nI 1))) (by omega)]
  replace hm := hm.sL (a := 11) (i := (b) + (0 + 1)) (by decide) ((rfl : mL m2 11 (a + (0 + 1)) = Int64.ofInt (m2 11 (a + (0 + 1)))))
  generalize hg4 : mu m3 11 _ _ = m4 at hm
  conv => whnf
  refine ⟨fun c_ => absurd c_ (by decide), fun c_ => ?_⟩
  conv => whnf
  refine hK _ _ _ _ _ _ (go hc 47 (fun K hK => ?_))
  conv => whnf
  refine ⟨_, _, hm.M, rfl, ?_⟩
  conv => whnf
  refine ⟨_, hm.M, Nat.le_of_ble_eq_true rfl, ?_⟩
  conv => whnf
  refine callee hc (e_place (k := k) (i := j + 1) rfl rfl ?_)
  rw [← ha]
  conv => whnf
  refine ⟨_, _, hm.L11, ixv (k := (a) + (0 + 1 + 1)) (ia ((rfl : nI (a) = nI (a))) (ia (ia ((rfl : (0 : Int32) = nI 0)) (rfl : (1 : Int32) = nI 1)) (rfl : (1 : Int32) = nI 1))) (by omega) (Nat.le_of_ble_eq_true rfl), ?_⟩
  rw [ixc (k := (a) + (0 + 1 + 1)) (ia ((rfl : nI (a) = nI (a))) (ia (ia ((rfl : (0 : Int32) = nI 0)) (rfl : (1 : Int32) = nI 1)) (rfl : (1 : Int32) = nI 1))) (by omega)]
  conv => whnf
  refine ⟨_, _, hm.M, rfl, ?_⟩
  conv => whnf
  refine ⟨_, hm.M, Nat.le_of_ble_eq_true rfl, ?_⟩
  conv => whnf
  refine callee hc (e_place (k := k) (i := j + 1) rfl rfl ?_)
  rw [← ha]
  conv => whnf
  refine ⟨_, _, hm.M, rfl, ?_⟩
  conv => whnf
  refine ⟨_, hm.M, Nat.le_of_ble_eq_true rfl, ?_⟩
  conv => whnf
  refine callee hc (e_place (k := k) (i := j) rfl (nI_pred j) ?_)
  rw [← hb]
  conv => whnf
  refine ⟨_, _, hm.L11, ixv (k := (b) + (0 + 1 + 1)) (ia ((rfl : nI (b) = nI (b))) (ia (ia ((rfl : (0 : Int32) = nI 0)) (rfl : (1 : Int32) = nI 1)) (rfl : (1 : Int32) = nI 1))) (by omega) (Nat.le_of_ble_eq_true rfl), ?_⟩
  rw [ixc (k := (b) + (0 + 1 + 1)) (ia ((rfl : nI (b) = nI (b))) (ia (ia ((rfl : (0 : Int32) = nI 0)) (rfl : (1 : Int32) = nI 1)) (rfl : (1 : Int32) = nI 1))) (by omega)]
  conv => whnf
  refine ⟨_, _, hm.L11, ixv (k := (a) + (0 + 1 + 1)) (ia ((rfl : nI (a) = nI (a))) (ia (ia ((rfl : (0 : Int32) = nI 0)) (rfl : (1 : Int32) = nI 1)) (rfl : (1 : Int32) = nI 1))) (by omega) (Nat.le_of_ble_eq_true rfl), ?_⟩
  rw [ixc (k := (a) + (0 + 1 + 1)) (ia ((rfl : nI (a) = nI (a))) (ia (ia ((rfl : (0 : Int32) = nI 0)) (rfl : (1 : Int32) = nI 1)) (rfl : (1 : Int32) = nI 1))) (by omega)]
  replace hm := hm.sL (a := 11) (i := (a) + (0 + 1 + 1)) (by decide) ((rfl : mL m4 11 (b + (0 + 1 + 1)) = Int64.ofInt (m4 11 (b + (0 + 1 + 1)))))
  generalize hg5 : mu m4 11 _ _ = m5 at hm
  conv => whnf
  refine ⟨_, _, hm.M, rfl, ?_⟩
  conv => whnf
  refine ⟨_, hm.M, Nat.le_of_ble_eq_true rfl, ?_⟩
  conv => whnf
  refine callee hc (e_place (k := k) (i := j) rfl (nI_pred j) ?_)
  rw [← hb]
  conv => whnf
  refine ⟨_, _, hm.L11, ixv (k := (b) + (0 + 1 + 1)) (ia ((rfl : nI (b) = nI (b))) (ia (ia ((rfl : (0 : Int32) = nI 0)) (rfl : (1 : Int32) = nI 1)) (rfl : (1 : Int32) = nI 1))) (by omega) (Nat.le_of_ble_eq_true rfl), ?_⟩
  rw [ixc (k := (b) + (0 + 1 + 1)) (ia ((rfl : nI (b) = nI (b))) (ia (ia ((rfl : (0 : Int32) = nI 0)) (rfl : (1 : Int32) = nI 1)) (rfl : (1 : Int32) = nI 1))) (by omega)]
  replace hm := hm.sL (a := 11) (i := (b) + (0 + 1 + 1)) (by decide) ((rfl : mL m4 11 (a + (0 + 1 + 1)) = Int64.ofInt (m4 11 (a + (0 + 1 + 1)))))
  generalize hg6 : mu m5 11 _ _ = m6 at hm
  conv => whnf
  have hab : a = b + 3 := by omega
  have o : ∀ x, m6 11 x = if x = b + 2 then m 11 (a + 2) else if x = a + 2 then m 11 (b + 2) else if x = b + 1 then m 11 (a + 1) else if x = a + 1 then m 11 (b + 1) else if x = b then m 11 a else if x = a then m 11 b else m 11 x := by
    have s1 : ∀ x, m2 11 x = if x = b then m 11 a else if x = a then m 11 b else m 11 x := fun x => by
      rw [← hg2, mu_self, ← hg1, mu_self]
      unfold va_up
      simp only [Nat.add_zero]
    have s2 : ∀ x, m4 11 x = if x = b + 1 then m2 11 (a + 1) else if x = a + 1 then m2 11 (b + 1) else m2 11 x := fun x => by
      rw [← hg4, mu_self, ← hg3, mu_self]
      rfl
    have s3 : ∀ x, m6 11 x = if x = b + 2 then m4 11 (a + 2) else if x = a + 2 then m4 11 (b + 2) else m4 11 x := fun x => by
      rw [← hg6, mu_self, ← hg5, mu_self]
      rfl
    intro x
    rw [s3 x, s2 (a + 2), s2 (b + 2), s2 x, s1 (a + 2), s1 (b + 2), s1 (a + 1), s1 (b + 1), s1 x]
    rw [if_neg (show ¬ a + 2 = b + 1 by omega), if_neg (show ¬ a + 2 = a + 1 by omega), if_neg (show ¬ a + 2 = b by omega), if_neg (show ¬ a + 2 = a by omega), if_neg (show ¬ b + 2 = b + 1 by omega), if_neg (show ¬ b + 2 = a + 1 by omega), if_neg (show ¬ b + 2 = b by omega), if_neg (show ¬ b + 2 = a by omega), if_neg (show ¬ a + 1 = b by omega), if_neg (show ¬ a + 1 = a by omega), if_neg (show ¬ b + 1 = b by omega), if_neg (show ¬ b + 1 = a by omega)]
  have f6 : Fx [11] m m6 := by
    rw [← hg6, ← hg5, ← hg4, ← hg3, ← hg2, ← hg1]
    exact (((((Fx.refl.mu (by decide)).mu (by decide)).mu (by decide)).mu (by decide)).mu (by decide)).mu (by decide)
  refine ⟨fun c_ => ?_, fun c_ => absurd (by decide) c_⟩
  conv => whnf
  try simp only [nI_1]
  refine hK _ _ _ _ _ _ (Runs.less hc [0, 1, 2, 3] rfl rfl rfl rfl (hQ m6 _ hm ?_ ?_ ?_ f6))
  · unfold vAt
    rw [o a, o (a + 1), o (a + 2)]
    rw [if_neg (show ¬ a = b + 2 by omega), if_neg (show ¬ a = a + 2 by omega), if_neg (show ¬ a = b + 1 by omega), if_neg (show ¬ a = a + 1 by omega), if_neg (show ¬ a = b by omega), if_pos rfl, if_neg (show ¬ a + 1 = b + 2 by omega), if_neg (show ¬ a + 1 = a + 2 by omega), if_neg (show ¬ a + 1 = b + 1 by omega), if_pos rfl, if_neg (show ¬ a + 2 = b + 2 by omega), if_pos rfl]
  · unfold vAt
    rw [o b, o (b + 1), o (b + 2)]
    rw [if_neg (show ¬ b = b + 2 by omega), if_neg (show ¬ b = a + 2 by omega), if_neg (show ¬ b = b + 1 by omega), if_neg (show ¬ b = a + 1 by omega), if_pos rfl, if_neg (show ¬ b + 1 = b + 2 by omega), if_neg (show ¬ b + 1 = a + 2 by omega), if_pos rfl, if_pos rfl]
  · intro x hx
    rw [o x, if_neg (by omega), if_neg (by omega), if_neg (by omega), if_neg (by omega), if_neg (by omega), if_neg (by omega)]
end ESORT
