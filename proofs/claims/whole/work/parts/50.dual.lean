/-! THE REFERENCE's DUAL: by lists -/
theorem bd_mul2 {R S a b : Int} (ha : bdI R a) (hb : bdI S b) : bdI (R * S) (a * b) := by
  obtain ⟨h1, h2⟩ := ha
  obtain ⟨h3, h4⟩ := hb
  have k1 := Int.mul_nonneg (show 0 ≤ R - a by omega) (show 0 ≤ S - b by omega)
  have k2 := Int.mul_nonneg (show 0 ≤ R + a by omega) (show 0 ≤ S + b by omega)
  have k3 := Int.mul_nonneg (show 0 ≤ R - a by omega) (show 0 ≤ S + b by omega)
  have k4 := Int.mul_nonneg (show 0 ≤ R + a by omega) (show 0 ≤ S - b by omega)
  constructor <;> grind
theorem bd_xp {R S : Int} {a b : V3} (ha : bdV R a) (hb : bdV S b) : bdV (2 * (R * S)) (xp a b) := by
  obtain ⟨a1, a2, a3⟩ := ha
  obtain ⟨b1, b2, b3⟩ := hb
  have q1 := bd_mul2 a2 b3; have q2 := bd_mul2 a3 b2; have q3 := bd_mul2 a3 b1; have q4 := bd_mul2 a1 b3; have q5 := bd_mul2 a1 b2; have q6 := bd_mul2 a2 b1
  unfold bdI at *
  unfold bdV xp bdI
  simp only
  omega
theorem bd_dot2 {R S : Int} {a b : V3} (ha : bdV R a) (hb : bdV S b) : bdI (3 * (R * S)) (dot a b) := by
  obtain ⟨a1, a2, a3⟩ := ha
  obtain ⟨b1, b2, b3⟩ := hb
  have q1 := bd_mul2 a1 b1; have q2 := bd_mul2 a2 b2; have q3 := bd_mul2 a3 b3
  unfold bdI at *
  unfold dot
  omega
theorem tdiv_bd {B a : Int} {g : Nat} (h : bdI B a) : bdI B (a.tdiv (g : Int)) := by
  have h1 : (a.tdiv (g : Int)).natAbs ≤ a.natAbs := by rw [Int.natAbs_tdiv]; exact Nat.div_le_self _ _
  have := h.1; have := h.2
  constructor <;> omega
theorem bd_prm {B : Int} {v : V3} (h : bdV B v) : bdV B (prm v) := by
  unfold prm
  split
  · exact ⟨tdiv_bd h.1, tdiv_bd h.2.1, tdiv_bd h.2.2⟩
  · exact h
theorem bd_neg {B : Int} {v : V3} (h : bdV B v) : bdV B (neg3 v) := by
  obtain ⟨⟨h1, h2⟩, ⟨h3, h4⟩, ⟨h5, h6⟩⟩ := h
  unfold bdV bdI neg3
  simp only
  omega
/-- the vectors offered for u with each of t -/
def pls (l : List V3) (u : V3) : List V3 → List V3 → List V3
  | [], F => F
  | v :: t, F => pls l u t (if xp u v = (0, 0, 0) then F else ofr l F (prm (xp u v)))
def prs (l : List V3) : List V3 → List V3 → List V3
  | [], F => F
  | u :: t, F => prs l t (pls l u t F)
def oneW (l : List V3) : List V3 :=
  ofr l (ofr l (ofr l [] (prm (if (gt l 0).1 = 0 then (1, 0, 0) else (-(gt l 0).2.1, (gt l 0).1, 0)))) (prm (if (gt l 0).1 = 0 then (0, -(gt l 0).2.2, (gt l 0).2.1) else (-(gt l 0).2.2, 0, (gt l 0).1)))) (prm (gt l 0))
def secF (l : List V3) : Nat → Nat → Option Nat
  | 0, _ => none
  | n + 1, i => if xp (gt l 0) (gt l i) = (0, 0, 0) then secF l n (i + 1) else some i
def plaB (c : V3) (l : List V3) : Bool := l.all fun v => decide (dot c v = 0)
def dualN (l : List V3) (c : V3) : List V3 := if plaB c l = true then pls l c l (ofr l [] (prm c)) else prs l l []
def dualS (l : List V3) : Option Nat → List V3
  | none => oneW l
  | some i => dualN l (prm (xp (gt l 0) (gt l i)))
def dualF (l : List V3) : List V3 := dualS l (secF l (l.length - 1) 1)
theorem pls_le (l : List V3) (u : V3) : ∀ (t F : List V3), F.length ≤ (pls l u t F).length
  | [], F => Nat.le_refl _
  | v :: t, F => by
    refine Nat.le_trans ?_ (pls_le l u t _)
    split
    · exact Nat.le_refl _
    · exact (ofr_len _ _ _).1
theorem prs_le (l : List V3) : ∀ (t F : List V3), F.length ≤ (prs l t F).length
  | [], F => Nat.le_refl _
  | u :: t, F => Nat.le_trans (pls_le l u t F) (prs_le l t _)
theorem ofr_mem {l F : List V3} {c f : V3} (h : f ∈ ofr l F c) : f ∈ F ∨ f = c ∨ f = neg3 c := by
  rcases of1_mem h with h | h
  · rcases of1_mem h with h | h
    · exact Or.inl h
    · exact Or.inr (Or.inl h)
  · exact Or.inr (Or.inr h)
section EDUAL
variable {sc : Scr} {d : Nat} {m : MM} {D Z h : PH} {Q : Out → PH → Prop} {F l : List V3} {a : Nat}
/-- one offer: c is primitive already -/
theorem e_off {m0 : MM} (hm : MR m D Z h) (ha : a = 4 ∨ a = 5) (hl : RW m0 a 0 l) (hla : l.length ≤ 600) (hf0 : Fx [6, 7, 8, 16] m0 m) {N : Int32} (hN : N = nI l.length) (hfn : m 16 0 = (F.length : Int)) (hF : RW m 6 0 F) (hFl : F.length + 2 ≤ 600) (hFi : ∀ f ∈ F, bdV 400000000000 f) {c : V3} (hcv : vAt m 7 0 = c) (hci : bdV 400000000000 c)
    (hb : ∀ v ∈ l, bdV 2700 v) (hQ : ∀ m' h', MR m' D Z h' → RW m' 6 0 (ofr l F c) → m' 16 0 = ((ofr l F c).length : Int) → Fx [6, 7, 8, 16] m0 m' → m' 8 = m 8 → (∀ f ∈ ofr l F c, bdV 400000000000 f) → Q (.inl none) h') : wpC sc (d + 2) 86 [.ref 60, .ref (a + 60), .int N] h Q := by
  have hlr : larr a := by rcases ha with h | h <;> rw [h] <;> decide
  have hal : alen a = 1800 := by rcases ha with h | h <;> rw [h] <;> rfl
  refine e_offer hm hlr (by omega) (by omega) (hl.eq (hf0 a (by simp; omega))) (by omega) hN hfn hF hFl (fun f hf => (hFi f hf).inV (by decide)) hcv (hci.inV (by decide)) (fun v hv => (bd_dot2 hci (hb v hv)).inL (by decide)) fun m1 h1 hm1 r1 n1 f1 => ?_
  refine hQ m1 h1 hm1 r1 n1 (hf0.trans (f1.mono (by decide))) (f1 8 (by decide)) fun f hf => ?_
  rcases ofr_mem hf with h | h | h
  · exact hFi f h
  · rw [h]; exact hci
  · rw [h]; exact bd_neg hci
theorem e_oneWay {m0 : MM} (hm : MR m D Z h) (ha : a = 4 ∨ a = 5) (hl : RW m0 a 0 l) (hl0 : 0 < l.length) (hla : l.length ≤ 600) (hf0 : Fx [6, 7, 8, 16] m0 m) {N : Int32} (hN : N = nI l.length) (hfn : m 16 0 = 0) (hb : ∀ v ∈ l, bdV 2700 v)
    (hQ : ∀ m' h', MR m' D Z h' → RW m' 6 0 (oneW l) → m' 16 0 = ((oneW l).length : Int) → Fx [6, 7, 8, 16] m0 m' → (∀ f ∈ oneW l, bdV 400000000000 f) → Q (.inl none) h') : wpC sc (d + 4) 89 [.ref 60, .ref (a + 60), .int N] h Q := by
  subst hN
  have hlr : larr a := by rcases ha with h | h <;> rw [h] <;> decide
  have hal : alen a = 1800 := by rcases ha with h | h <;> rw [h] <;> rfl
  have ha4 : a ∉ [6, 7, 8, 16] := by rcases ha with h | h <;> rw [h] <;> decide
  have hv : ∀ {m1 : MM}, Fx [6, 7, 8, 16] m0 m1 → vAt m1 a 0 = gt l 0 := fun hf => by rw [vAt_eq (hf a ha4)]; exact hl.v0 hl0
  have hbv := hb _ (gt_mem hl0)
  have g1 := hv hf0
  unfold oneW at hQ
  generalize gt l 0 = v at *
  have l1 := ofr_len l [] (prm (if v.1 = 0 then (1, 0, 0) else (-v.2.1, v.1, 0)))
  have l2 := ofr_len l (ofr l [] (prm (if v.1 = 0 then (1, 0, 0) else (-v.2.1, v.1, 0)))) (prm (if v.1 = 0 then (0, -v.2.2, v.2.1) else (-v.2.2, 0, v.1)))
  rw [List.length_nil] at l1
  have b1 : bdV 400000000000 (if v.1 = 0 then (1, 0, 0) else (-v.2.1, v.1, 0)) := by
    obtain ⟨⟨k1, k2⟩, ⟨k3, k4⟩, ⟨k5, k6⟩⟩ := hbv
    unfold bdV bdI
    split <;> simp only <;> omega
  have b2 : bdV 400000000000 (if v.1 = 0 then (0, -v.2.2, v.2.1) else (-v.2.2, 0, v.1)) := by
    obtain ⟨⟨k1, k2⟩, ⟨k3, k4⟩, ⟨k5, k6⟩⟩ := hbv
    unfold bdV bdI
    split <;> simp only <;> omega
  have b3 : bdV 400000000000 v := by
    obtain ⟨⟨k1, k2⟩, ⟨k3, k4⟩, ⟨k5, k6⟩⟩ := hbv
    exact ⟨⟨by omega, by omega⟩, ⟨by omega, by omega⟩, ⟨by omega, by omega⟩⟩
  have i0 : inL v.1 := (b3.1).inL (by decide)
  have emp : RW m 6 0 [] := fun i hi => absurd hi (Nat.not_lt_zero _)
  generalize hc1 : (if v.1 = 0 then ((1, 0, 0) : V3) else (-v.2.1, v.1, 0)) = c1 at *
  generalize hc2 : (if v.1 = 0 then ((0, -v.2.2, v.2.1) : V3) else (-v.2.2, 0, v.1)) = c2 at *
  have third : ∀ {call : Callee}, call = wpC sc (d + 3) → ∀ m2 h2, MR m2 D Z h2 → vAt m2 7 0 = prm c2 → RW m2 6 0 (ofr l [] (prm c1)) → m2 16 0 = ((ofr l [] (prm c1)).length : Int) → Fx [6, 7, 8, 16] m0 m2 → (∀ f ∈ ofr l [] (prm c1), bdV 400000000000 f) →
      Runs (d + 3) call sc m_X4_oneWay (qth (mTh m_X4_oneWay) Q) 71 [(0, .ref 60), (1, .ref (a + 60)), (2, .int (nI l.length))] [] h2 0 0 := by
    intro call hc m2 h2 hm v2 r2 n2 f2 k2
    refine go hc 20 (fun K hK => ?_)
    conv => whnf
    refine ⟨_, hm.M, Nat.le_of_ble_eq_true rfl, ?_⟩
    conv => whnf
    refine callee hc (e_off hm ha hl hla f2 rfl n2 r2 (by omega) k2 v2 (bd_prm b2) hb ?_)
    intro m3 h3 hm r3 n3 f3 _ k3
    have g3 := hv f3
    conv => whnf
    refine ⟨_, _, hm.L (a := a) (by assumption), ixv (k := 0) ((rfl : (0 : Int32) = nI 0)) (by omega) (alen_lt _), ?_⟩
    rw [ixc (k := 0) ((rfl : (0 : Int32) = nI 0)) (by omega)]
    conv => whnf
    refine ⟨_, _, hm.L (a := a) (by assumption), ixv (k := 1) ((rfl : (1 : Int32) = nI 1)) (by omega) (alen_lt _), ?_⟩
    rw [ixc (k := 1) ((rfl : (1 : Int32) = nI 1)) (by omega)]
    conv => whnf
    refine ⟨_, _, hm.L (a := a) (by assumption), ixv (k := 2) ((rfl : (2 : Int32) = nI 2)) (by omega) (alen_lt _), ?_⟩
    rw [ixc (k := 2) ((rfl : (2 : Int32) = nI 2)) (by omega)]
    conv => whnf
    refine ⟨_, hm.M, Nat.le_of_ble_eq_true rfl, ?_⟩
    conv => whnf
    refine callee hc (e_put hm v (by unfold mL; rw [show m3 a 0 = v.1 from congrArg Prod.fst g3]) (by unfold mL; rw [show m3 a 1 = v.2.1 from congrArg (fun v : V3 => v.2.1) g3]) (by unfold mL; rw [show m3 a 2 = v.2.2 from congrArg (fun v : V3 => v.2.2) g3]) (b3.inV (by decide)) ?_)
    intro m4 h4 hm v4 f4
    conv => whnf
    refine ⟨_, hm.M, Nat.le_of_ble_eq_true rfl, ?_⟩
    conv => whnf
    refine callee hc (e_off hm ha hl hla (f3.trans (f4.mono (by decide))) rfl (by rw [f4 16 (by decide)]; exact n3) (r3.eq (f4 6 (by decide))) (by omega) k3 v4 (bd_prm b3) hb ?_)
    intro m5 h5 hm r5 n5 f5 _ k5
    conv => whnf
    exact hQ m5 h5 hm r5 n5 f5 k5
  have second : ∀ {call : Callee}, call = wpC sc (d + 3) → ∀ m2 h2, MR m2 D Z h2 → vAt m2 7 0 = prm c1 → RW m2 6 0 [] → m2 16 0 = 0 → Fx [6, 7, 8, 16] m0 m2 →
      Runs (d + 3) call sc m_X4_oneWay (qth (mTh m_X4_oneWay) Q) 30 [(0, .ref 60), (1, .ref (a + 60)), (2, .int (nI l.length))] [] h2 0 0 := by
    intro call hc m2 h2 hm v2 r2 n2 f2
    refine go hc 10 (fun K hK => ?_)
    conv => whnf
    refine ⟨_, hm.M, Nat.le_of_ble_eq_true rfl, ?_⟩
    conv => whnf
    refine callee hc (e_off (F := []) hm ha hl hla f2 rfl n2 r2 (by simp) (fun f hf => absurd hf List.not_mem_nil) v2 (bd_prm b1) hb ?_)
    intro m3 h3 hm r3 n3 f3 _ k3
    have g3 := hv f3
    conv => whnf
    refine ⟨_, _, hm.L (a := a) (by assumption), ixv (k := 0) ((rfl : (0 : Int32) = nI 0)) (by omega) (alen_lt _), ?_⟩
    rw [ixc (k := 0) ((rfl : (0 : Int32) = nI 0)) (by omega)]
    conv => whnf
    have q0 : m3 a 0 = v.1 := congrArg Prod.fst g3
    have q1 : m3 a 1 = v.2.1 := congrArg (fun v : V3 => v.2.1) g3
    have q2 : m3 a 2 = v.2.2 := congrArg (fun v : V3 => v.2.2) g3
    unfold mL
    rw [q0]
    by_cases z : v.1 = 0
    · rw [if_pos z] at hc2
      refine ⟨fun c_ => ?_, fun c_ => absurd ((kEq0 i0).mpr z) c_⟩
      conv => whnf
      refine hK _ _ _ _ _ _ (go hc 10 (fun K hK => ?_))
      conv => whnf
      refine ⟨_, _, hm.L (a := a) (by assumption), ixv (k := 2) ((rfl : (2 : Int32) = nI 2)) (by omega) (alen_lt _), ?_⟩
      rw [ixc (k := 2) ((rfl : (2 : Int32) = nI 2)) (by omega)]
      conv => whnf
      refine ⟨_, _, hm.L (a := a) (by assumption), ixv (k := 1) ((rfl : (1 : Int32) = nI 1)) (by omega) (alen_lt _), ?_⟩
      rw [ixc (k := 1) ((rfl : (1 : Int32) = nI 1)) (by omega)]
      conv => whnf
      refine ⟨_, hm.M, Nat.le_of_ble_eq_true rfl, ?_⟩
      conv => whnf
      refine callee hc (e_put hm c2 (by rw [← hc2]; rfl) (by rw [← hc2]; unfold mL; rw [q2]; exact (Int64.ofInt_neg _).symm) (by rw [← hc2]; unfold mL; rw [q1]) (b2.inV (by decide)) ?_)
      intro m4 h4 hm v4 f4
      conv => whnf
      try simp only [nI_1]
      refine hK _ _ _ _ _ _ (Runs.less hc [0, 1, 2] rfl rfl rfl rfl (third hc m4 h4 hm v4 (r3.eq (f4 6 (by decide))) (by rw [f4 16 (by decide)]; exact n3) (f3.trans (f4.mono (by decide))) k3))
    · rw [if_neg z] at hc2
      refine ⟨fun c_ => absurd c_ (fun q => z ((kEq0 i0).mp q)), fun c_ => ?_⟩
      conv => whnf
      refine hK _ _ _ _ _ _ (go hc 11 (fun K hK => ?_))
      conv => whnf
      refine ⟨_, _, hm.L (a := a) (by assumption), ixv (k := 2) ((rfl : (2 : Int32) = nI 2)) (by omega) (alen_lt _), ?_⟩
      rw [ixc (k := 2) ((rfl : (2 : Int32) = nI 2)) (by omega)]
      conv => whnf
      refine ⟨_, _, hm.L (a := a) (by assumption), ixv (k := 0) ((rfl : (0 : Int32) = nI 0)) (by omega) (alen_lt _), ?_⟩
      rw [ixc (k := 0) ((rfl : (0 : Int32) = nI 0)) (by omega)]
      conv => whnf
      refine ⟨_, hm.M, Nat.le_of_ble_eq_true rfl, ?_⟩
      conv => whnf
      refine callee hc (e_put hm c2 (by rw [← hc2]; unfold mL; rw [q2]; exact (Int64.ofInt_neg _).symm) (by rw [← hc2]; rfl) (by rw [← hc2]; unfold mL; rw [q0]) (b2.inV (by decide)) ?_)
      intro m4 h4 hm v4 f4
      conv => whnf
      try simp only [nI_1]
      refine hK _ _ _ _ _ _ (Runs.less hc [0, 1, 2] rfl rfl rfl rfl (third hc m4 h4 hm v4 (r3.eq (f4 6 (by decide))) (by rw [f4 16 (by decide)]; exact n3) (f3.trans (f4.mono (by decide))) k3))
  have q0 : m a 0 = v.1 := congrArg Prod.fst g1
  have q1 : m a 1 = v.2.1 := congrArg (fun v : V3 => v.2.1) g1
  refine enter rfl rfl (fun call hc => go hc 6 (fun K hK => ?_))
  conv => whnf
  refine ⟨_, _, hm.L (a := a) (by assumption), ixv (k := 0) ((rfl : (0 : Int32) = nI 0)) (by omega) (alen_lt _), ?_⟩
  rw [ixc (k := 0) ((rfl : (0 : Int32) = nI 0)) (by omega)]
  conv => whnf
  unfold mL
  rw [q0]
  by_cases z : v.1 = 0
  · rw [if_pos z] at hc1
    refine ⟨fun c_ => ?_, fun c_ => absurd ((kEq0 i0).mpr z) c_⟩
    conv => whnf
    refine hK _ _ _ _ _ _ (go hc 5 (fun K hK => ?_))
    conv => whnf
    refine ⟨_, hm.M, Nat.le_of_ble_eq_true rfl, ?_⟩
    conv => whnf
    refine callee hc (e_put hm c1 (by rw [← hc1]; rfl) (by rw [← hc1]; rfl) (by rw [← hc1]; rfl) (b1.inV (by decide)) ?_)
    intro m4 h4 hm v4 f4
    conv => whnf
    try simp only [nI_1]
    refine hK _ _ _ _ _ _ (Runs.less hc [0, 1, 2] rfl rfl rfl rfl (second hc m4 h4 hm v4 (emp.eq (f4 6 (by decide))) (by rw [f4 16 (by decide)]; exact hfn) (hf0.trans (f4.mono (by decide)))))
  · rw [if_neg z] at hc1
    refine ⟨fun c_ => absurd c_ (fun q => z ((kEq0 i0).mp q)), fun c_ => ?_⟩
    conv => whnf
    refine hK _ _ _ _ _ _ (go hc 11 (fun K hK => ?_))
    conv => whnf
    refine ⟨_, _, hm.L (a := a) (by assumption), ixv (k := 1) ((rfl : (1 : Int32) = nI 1)) (by omega) (alen_lt _), ?_⟩
    rw [ixc (k := 1) ((rfl : (1 : Int32) = nI 1)) (by omega)]
    conv => whnf
    refine ⟨_, _, hm.L (a := a) (by assumption), ixv (k := 0) ((rfl : (0 : Int32) = nI 0)) (by omega) (alen_lt _), ?_⟩
    rw [ixc (k := 0) ((rfl : (0 : Int32) = nI 0)) (by omega)]
    conv => whnf
    refine ⟨_, hm.M, Nat.le_of_ble_eq_true rfl, ?_⟩
    conv => whnf
    refine callee hc (e_put hm c1 (by rw [← hc1]; unfold mL; rw [q1]; exact (Int64.ofInt_neg _).symm) (by rw [← hc1]; unfold mL; rw [q0]) (by rw [← hc1]; rfl) (b1.inV (by decide)) ?_)
    intro m4 h4 hm v4 f4
    conv => whnf
    try simp only [nI_1]
    refine hK _ _ _ _ _ _ (Runs.less hc [0, 1, 2] rfl rfl rfl rfl (second hc m4 h4 hm v4 (emp.eq (f4 6 (by decide))) (by rw [f4 16 (by decide)]; exact hfn) (hf0.trans (f4.mono (by decide)))))
/-- looking for a second row apart from the first -/
theorem du_sec {call : Callee} (hc : call = wpC sc (d + 4)) {m0 : MM} (ha : a = 4 ∨ a = 5) (hl : RW m0 a 0 l) (hla : l.length ≤ 600) (hb : ∀ v ∈ l, bdV 2700 v) {o : Option Nat}
    (hN : o = none → ∀ m' h', MR m' D Z h' → Fx [6, 7, 8, 16] m0 m' → m' 16 0 = 0 → Runs (d + 4) call sc m_X4_dual Q 47 [(0, .ref 60), (1, .ref (a + 60)), (2, .int (nI l.length)), (3, .int (-1))] [] h' 0 0)
    (hS : ∀ k, o = some k → k < l.length → ∀ m' h', MR m' D Z h' → Fx [6, 7, 8, 16] m0 m' → m' 16 0 = 0 → vAt m' 7 0 = prm (xp (gt l 0) (gt l k)) → Runs (d + 4) call sc m_X4_dual Q 47 [(0, .ref 60), (1, .ref (a + 60)), (2, .int (nI l.length)), (3, .int (nI k))] [] h' 0 0) :
    ∀ (n i : Nat) (m : MM) (h : PH), i + n = l.length → 0 < i → secF l n i = o → MR m D Z h → Fx [6, 7, 8, 16] m0 m → m 16 0 = 0 →
    Runs (d + 4) call sc m_X4_dual Q 10 [(0, .ref 60), (1, .ref (a + 60)), (2, .int (nI l.length)), (3, .int (-1)), (4, .int (nI i))] [] h 0 0 := by
  have hlr : larr a := by rcases ha with h | h <;> rw [h] <;> decide
  have hal : alen a = 1800 := by rcases ha with h | h <;> rw [h] <;> rfl
  have ha4 : a ∉ [6, 7, 8, 16] := by rcases ha with h | h <;> rw [h] <;> decide
  intro n
  induction n with
  | zero =>
    intro i m h hi h0 ho hm hf hz
    refine go hc 3 (fun K hK => ?_)
    conv => whnf
    refine ⟨fun c_ => ?_, fun c_ => absurd (nI_le (by omega) (by omega)) c_⟩
    conv => whnf
    try simp only [nI_1]
    refine hK _ _ _ _ _ _ (Runs.less hc [0, 1, 2, 3] rfl rfl rfl rfl (hN ho.symm m h hm hf hz))
  | succ n ih =>
    intro i m h hi h0 ho hm hf hz
    have hil : i < l.length := by omega
    have e0 : vAt m a 0 = gt l 0 := by rw [vAt_eq (hf a ha4)]; exact hl.v0 (i := 0) (by omega)
    have ei : vAt m a (3 * i) = gt l i := by rw [vAt_eq (hf a ha4)]; exact hl.v0 hil
    have hbx : bdV 400000000000 (xp (gt l 0) (gt l i)) := (bd_xp (hb _ (gt_mem (by omega))) (hb _ (gt_mem hil))).mono (by decide)
    unfold secF at ho
    refine go hc 3 (fun K hK => ?_)
    conv => whnf
    refine ⟨fun c_ => absurd c_ (nI_ge hil (by omega)), fun c_ => ?_⟩
    conv => whnf
    refine hK _ _ _ _ _ _ (go hc 2 (fun K hK => ?_))
    conv => whnf
    refine ⟨fun c_ => absurd c_ (by decide), fun c_ => ?_⟩
    conv => whnf
    refine hK _ _ _ _ _ _ (go hc 9 (fun K hK => ?_))
    conv => whnf
    refine ⟨_, hm.M, Nat.le_of_ble_eq_true rfl, ?_⟩
    conv => whnf
    refine callee hc (e_cross hm (a := a) (b := a) (i := 0) (j := 3 * i) hlr hlr (by omega) (by omega) rfl (im rfl rfl) (by omega) (by omega) (by rw [e0, ei]; exact hbx.inV (by decide)) ?_)
    intro m1 h1 hm v1 f1
    rw [e0, ei] at v1
    rw [e0, ei]
    conv => whnf
    have f1' := hf.trans (f1.mono (k := [6, 7, 8, 16]) (by decide))
    have z1 : m1 16 0 = 0 := by rw [f1 16 (by decide)]; exact hz
    by_cases c : xp (gt l 0) (gt l i) = (0, 0, 0)
    · rw [if_pos c] at ho
      rw [decide_eq_false (fun q => q c)]
      refine ⟨fun c_ => ?_, fun c_ => absurd (rfl) c_⟩
      conv => whnf
      refine hK _ _ _ _ _ _ (go hc 4 (fun K hK => ?_))
      conv => whnf
      try simp only [nI_1]
      refine hK _ _ _ _ _ _ (Runs.less hc [0, 1, 2, 3, 4] rfl rfl rfl rfl (ih _ m1 h1 (by omega) (by omega) ho hm f1' z1))
    · rw [if_neg c] at ho
      rw [decide_eq_true c]
      refine ⟨fun c_ => absurd c_ (by decide), fun c_ => ?_⟩
      conv => whnf
      refine hK _ _ _ _ _ _ (go hc 5 (fun K hK => ?_))
      conv => whnf
      refine hK _ _ _ _ _ _ ?_
      rw [nI_1]
      refine go hc 3 (fun K hK => ?_)
      conv => whnf
      by_cases c2 : i + 1 < l.length
      · refine ⟨fun c_ => absurd c_ (nI_ge c2 (by omega)), fun c_ => ?_⟩
        conv => whnf
        refine hK _ _ _ _ _ _ (go hc 2 (fun K hK => ?_))
        conv => whnf
        refine ⟨fun c_ => ?_, fun c_ => absurd (show nI 0 ≤ nI i from nI_le (by omega) (by omega)) c_⟩
        conv => whnf
        try simp only [nI_1]
        refine hK _ _ _ _ _ _ (Runs.less hc [0, 1, 2, 3] rfl rfl rfl rfl (hS i ho.symm hil m1 h1 hm f1' z1 v1))
      · refine ⟨fun c_ => ?_, fun c_ => absurd (nI_le (by omega) (by omega)) c_⟩
        conv => whnf
        try simp only [nI_1]
        refine hK _ _ _ _ _ _ (Runs.less hc [0, 1, 2, 3] rfl rfl rfl rfl (hS i ho.symm hil m1 h1 hm f1' z1 v1))
/-- whether all rows lie in the plane -/
theorem du_pla {call : Callee} (hc : call = wpC sc (d + 4)) (hm : MR m D Z h) (ha : a = 4 ∨ a = 5) (hl : RW m a 0 l) (hla : l.length ≤ 600) (hb : ∀ v ∈ l, bdV 2700 v) {nv : V3} (hn : vAt m 8 0 = nv) (hnb : bdV 400000000000 nv) {S : Int32} :
    ∀ (n i : Nat) (p : Bool), i + n = l.length → Runs (d + 4) call sc m_X4_dual Q 135 [(0, .ref 60), (1, .ref (a + 60)), (2, .int (nI l.length)), (4, .int (bI01 (p && plaB nv (l.drop i))))] [] h 0 0 →
    Runs (d + 4) call sc m_X4_dual Q 93 [(0, .ref 60), (1, .ref (a + 60)), (2, .int (nI l.length)), (3, .int S), (4, .int (bI01 p)), (5, .int (nI i))] [] h 0 0 := by
  have hlr : larr a := by rcases ha with h | h <;> rw [h] <;> decide
  have hal : alen a = 1800 := by rcases ha with h | h <;> rw [h] <;> rfl
  intro n
  induction n with
  | zero =>
    intro i p hi hk
    rw [List.drop_eq_nil_of_le (by omega), show plaB nv [] = true from rfl, Bool.and_true] at hk
    refine go hc 3 (fun K hK => ?_)
    conv => whnf
    refine ⟨fun c_ => ?_, fun c_ => absurd (nI_le (by omega) (by omega)) c_⟩
    conv => whnf
    try simp only [nI_1]
    refine hK _ _ _ _ _ _ (Runs.less hc [0, 1, 2, 4] rfl rfl rfl rfl hk)
  | succ n ih =>
    intro i p hi hk
    have hil : i < l.length := by omega
    have ei : vAt m a (3 * i) = gt l i := hl.v0 hil
    have hdb := (bd_dot2 hnb (hb _ (gt_mem hil))).inL (by decide)
    rw [drop_gt hil] at hk
    unfold plaB at hk
    rw [List.all_cons] at hk
    refine go hc 3 (fun K hK => ?_)
    conv => whnf
    refine ⟨fun c_ => absurd c_ (nI_ge hil (by omega)), fun c_ => ?_⟩
    conv => whnf
    refine hK _ _ _ _ _ _ (go hc 2 (fun K hK => ?_))
    conv => whnf
    cases p with
    | false =>
      rw [Bool.false_and] at hk
      refine ⟨fun c_ => ?_, fun c_ => absurd (rfl) c_⟩
      conv => whnf
      refine hK _ _ _ _ _ _ (go hc 4 (fun K hK => ?_))
      conv => whnf
      try simp only [nI_1]
      refine hK _ _ _ _ _ _ (Runs.less hc [0, 1, 2, 3, 4, 5] rfl rfl rfl rfl (ih (i + 1) false (by omega) (by rw [Bool.false_and]; exact hk)))
    | true =>
      rw [Bool.true_and] at hk
      refine ⟨fun c_ => absurd c_ (by decide), fun c_ => ?_⟩
      conv => whnf
      refine hK _ _ _ _ _ _ (go hc 11 (fun K hK => ?_))
      conv => whnf
      refine ⟨_, _, hm.M, rfl, ?_⟩
      conv => whnf
      refine ⟨Nat.le_of_ble_eq_true rfl, ?_⟩
      conv => whnf
      refine callee hc (e_dot hm (a := 8) (b := a) (i := 0) (j := 3 * i) (by decide) hlr rfl (im rfl rfl) (by decide) (by omega) ?_)
      rw [hn, ei]
      conv => whnf
      by_cases c : dot nv (gt l i) = 0
      · rw [decide_eq_true c, Bool.true_and] at hk
        refine ⟨fun c_ => ?_, fun c_ => absurd ((kEq0 hdb).mpr c) c_⟩
        conv => whnf
        refine hK _ _ _ _ _ _ (go hc 5 (fun K hK => ?_))
        conv => whnf
        try simp only [nI_1]
        refine hK _ _ _ _ _ _ (Runs.less hc [0, 1, 2, 3, 4, 5] rfl rfl rfl rfl (ih (i + 1) true (by omega) (by rw [Bool.true_and]; exact hk)))
      · rw [decide_eq_false c, Bool.false_and] at hk
        refine ⟨fun c_ => absurd c_ (fun q => c ((kEq0 hdb).mp q)), fun c_ => ?_⟩
        conv => whnf
        refine hK _ _ _ _ _ _ (go hc 4 (fun K hK => ?_))
        conv => whnf
        try simp only [nI_1]
        refine hK _ _ _ _ _ _ (Runs.less hc [0, 1, 2, 3, 4, 5] rfl rfl rfl rfl (ih (i + 1) false (by omega) (by rw [Bool.false_and]; exact hk)))
/-- all rows in a plane: what lies in it -/
theorem du_in {call : Callee} (hc : call = wpC sc (d + 4)) {m0 : MM} (ha : a = 4 ∨ a = 5) (hl : RW m0 a 0 l) (hla : l.length ≤ 600) (hb : ∀ v ∈ l, bdV 2700 v) {nv : V3} (hnb : bdV 14580000 nv) {R : List V3} (hR : R.length ≤ 598)
    (hQ : ∀ m' h', MR m' D Z h' → RW m' 6 0 R → m' 16 0 = (R.length : Int) → Fx [6, 7, 8, 16] m0 m' → (∀ f ∈ R, bdV 400000000000 f) → Q (.inl none) h') :
    ∀ (n i : Nat) (m : MM) (h : PH) (F : List V3), i + n = l.length → MR m D Z h → RW m 6 0 F → m 16 0 = (F.length : Int) → Fx [6, 7, 8, 16] m0 m → vAt m 8 0 = nv → (∀ f ∈ F, bdV 400000000000 f) → pls l nv (l.drop i) F = R →
    Runs (d + 4) call sc m_X4_dual Q 171 [(0, .ref 60), (1, .ref (a + 60)), (2, .int (nI l.length)), (5, .int (nI i))] [] h 0 0 := by
  have hlr : larr a := by rcases ha with h | h <;> rw [h] <;> decide
  have hal : alen a = 1800 := by rcases ha with h | h <;> rw [h] <;> rfl
  have ha4 : a ∉ [6, 7, 8, 16] := by rcases ha with h | h <;> rw [h] <;> decide
  intro n
  induction n with
  | zero =>
    intro i m h F hi hm r1 n1 f1 hn k1 hp
    rw [List.drop_eq_nil_of_le (by omega)] at hp
    have hp : F = R := hp
    subst hp
    refine go hc 3 (fun K hK => ?_)
    conv => whnf
    refine ⟨fun c_ => ?_, fun c_ => absurd (nI_le (by omega) (by omega)) c_⟩
    conv => whnf
    refine hK _ _ _ _ _ _ (go hc 1 (fun K hK => ?_))
    conv => whnf
    exact hQ m h hm r1 n1 f1 k1
  | succ n ih =>
    intro i m h F hi hm r1 n1 f1 hn k1 hp
    have hil : i < l.length := by omega
    have ei : vAt m a (3 * i) = gt l i := by rw [vAt_eq (f1 a ha4)]; exact hl.v0 hil
    have hbx : bdV 400000000000 (xp nv (gt l i)) := (bd_xp hnb (hb _ (gt_mem hil))).mono (by decide)
    rw [drop_gt hil] at hp
    unfold pls at hp
    refine go hc 3 (fun K hK => ?_)
    conv => whnf
    refine ⟨fun c_ => absurd c_ (nI_ge hil (by omega)), fun c_ => ?_⟩
    conv => whnf
    refine hK _ _ _ _ _ _ (go hc 10 (fun K hK => ?_))
    conv => whnf
    refine ⟨_, _, hm.M, rfl, ?_⟩
    conv => whnf
    refine ⟨_, hm.M, Nat.le_of_ble_eq_true rfl, ?_⟩
    conv => whnf
    refine callee hc (e_cross hm (a := 8) (b := a) (i := 0) (j := 3 * i) (by decide) hlr (by decide) (by omega) rfl (im rfl rfl) (by decide) (by omega) (by rw [hn, ei]; exact hbx.inV (by decide)) ?_)
    intro m1 h1 hm v1 f2
    rw [hn, ei] at v1
    rw [hn, ei]
    conv => whnf
    have f2' := f1.trans (f2.mono (k := [6, 7, 8, 16]) (by decide))
    have n2 : m1 16 0 = (F.length : Int) := by rw [f2 16 (by decide)]; exact n1
    have hn2 : vAt m1 8 0 = nv := by rw [vAt_eq (f2 8 (by decide))]; exact hn
    by_cases c : xp nv (gt l i) = (0, 0, 0)
    · rw [if_pos c] at hp
      rw [decide_eq_false (fun q => q c)]
      refine ⟨fun c_ => ?_, fun c_ => absurd (rfl) c_⟩
      conv => whnf
      refine hK _ _ _ _ _ _ (go hc 2 (fun K hK => ?_))
      conv => whnf
      try simp only [nI_1]
      refine hK _ _ _ _ _ _ (Runs.less hc [0, 1, 2, 5] rfl rfl rfl rfl (ih _ m1 h1 F (by omega) hm (r1.eq (f2 6 (by decide))) n2 f2' hn2 k1 hp))
    · rw [if_neg c] at hp
      have hlen := ofr_len l F (prm (xp nv (gt l i)))
      have hle := pls_le l nv (l.drop (i + 1)) (ofr l F (prm (xp nv (gt l i))))
      rw [hp] at hle
      rw [decide_eq_true c]
      refine ⟨fun c_ => absurd c_ (by decide), fun c_ => ?_⟩
      conv => whnf
      refine hK _ _ _ _ _ _ (go hc 6 (fun K hK => ?_))
      conv => whnf
      refine ⟨_, hm.M, Nat.le_of_ble_eq_true rfl, ?_⟩
      conv => whnf
      refine callee hc (e_off hm ha hl hla f2' rfl n2 (r1.eq (f2 6 (by decide))) (by omega) k1 v1 (bd_prm hbx) hb ?_)
      intro m3 h3 hm r3 n3 f3 e3 k3
      conv => whnf
      try simp only [nI_1]
      refine hK _ _ _ _ _ _ (Runs.less hc [0, 1, 2, 5] rfl rfl rfl rfl (ih _ m3 h3 _ (by omega) hm r3 n3 f3 (by rw [vAt_eq e3]; exact hn2) k3 hp))
/-- all pairs -/
theorem du_j {call : Callee} (hc : call = wpC sc (d + 4)) {m0 : MM} (ha : a = 4 ∨ a = 5) (hl : RW m0 a 0 l) (hla : l.length ≤ 600) (hb : ∀ v ∈ l, bdV 2700 v) {i : Nat} (hi : i < l.length) {R : List V3} (hR : R.length ≤ 598)
    (hQ : ∀ m' h', MR m' D Z h' → RW m' 6 0 R → m' 16 0 = (R.length : Int) → Fx [6, 7, 8, 16] m0 m' → (∀ f ∈ R, bdV 400000000000 f) → Runs (d + 4) call sc m_X4_dual Q 210 [(0, .ref 60), (1, .ref (a + 60)), (2, .int (nI l.length)), (5, .int (nI (i + 1)))] [] h' 0 0) :
    ∀ (n j : Nat) (m : MM) (h : PH) (F : List V3), j + n = l.length → MR m D Z h → RW m 6 0 F → m 16 0 = (F.length : Int) → Fx [6, 7, 8, 16] m0 m → (∀ f ∈ F, bdV 400000000000 f) → pls l (gt l i) (l.drop j) F = R →
    Runs (d + 4) call sc m_X4_dual Q 222 [(0, .ref 60), (1, .ref (a + 60)), (2, .int (nI l.length)), (5, .int (nI i)), (6, .int (nI j))] [] h 0 0 := by
  have hlr : larr a := by rcases ha with h | h <;> rw [h] <;> decide
  have hal : alen a = 1800 := by rcases ha with h | h <;> rw [h] <;> rfl
  have ha4 : a ∉ [6, 7, 8, 16] := by rcases ha with h | h <;> rw [h] <;> decide
  intro n
  induction n with
  | zero =>
    intro j m h F hj hm r1 n1 f1 k1 hp
    rw [List.drop_eq_nil_of_le (by omega)] at hp
    have hp : F = R := hp
    subst hp
    refine go hc 3 (fun K hK => ?_)
    conv => whnf
    refine ⟨fun c_ => ?_, fun c_ => absurd (nI_le (by omega) (by omega)) c_⟩
    conv => whnf
    refine hK _ _ _ _ _ _ (go hc 2 (fun K hK => ?_))
    conv => whnf
    try simp only [nI_1]
    refine hK _ _ _ _ _ _ (Runs.less hc [0, 1, 2, 5] rfl rfl rfl rfl (hQ m h hm r1 n1 f1 k1))
  | succ n ih =>
    intro j m h F hj hm r1 n1 f1 k1 hp
    have hjl : j < l.length := by omega
    have ei : vAt m a (3 * i) = gt l i := by rw [vAt_eq (f1 a ha4)]; exact hl.v0 hi
    have ej : vAt m a (3 * j) = gt l j := by rw [vAt_eq (f1 a ha4)]; exact hl.v0 hjl
    have hbx : bdV 400000000000 (xp (gt l i) (gt l j)) := (bd_xp (hb _ (gt_mem hi)) (hb _ (gt_mem hjl))).mono (by decide)
    rw [drop_gt hjl] at hp
    unfold pls at hp
    refine go hc 3 (fun K hK => ?_)
    conv => whnf
    refine ⟨fun c_ => absurd c_ (nI_ge hjl (by omega)), fun c_ => ?_⟩
    conv => whnf
    refine hK _ _ _ _ _ _ (go hc 11 (fun K hK => ?_))
    conv => whnf
    refine ⟨_, hm.M, Nat.le_of_ble_eq_true rfl, ?_⟩
    conv => whnf
    refine callee hc (e_cross hm (a := a) (b := a) (i := 3 * i) (j := 3 * j) hlr hlr (by omega) (by omega) (im rfl rfl) (im rfl rfl) (by omega) (by omega) (by rw [ei, ej]; exact hbx.inV (by decide)) ?_)
    intro m1 h1 hm v1 f2
    rw [ei, ej] at v1
    rw [ei, ej]
    conv => whnf
    have f2' := f1.trans (f2.mono (k := [6, 7, 8, 16]) (by decide))
    have n2 : m1 16 0 = (F.length : Int) := by rw [f2 16 (by decide)]; exact n1
    by_cases c : xp (gt l i) (gt l j) = (0, 0, 0)
    · rw [if_pos c] at hp
      rw [decide_eq_false (fun q => q c)]
      refine ⟨fun c_ => ?_, fun c_ => absurd (rfl) c_⟩
      conv => whnf
      refine hK _ _ _ _ _ _ (go hc 2 (fun K hK => ?_))
      conv => whnf
      try simp only [nI_1]
      refine hK _ _ _ _ _ _ (Runs.less hc [0, 1, 2, 5, 6] rfl rfl rfl rfl (ih _ m1 h1 F (by omega) hm (r1.eq (f2 6 (by decide))) n2 f2' k1 hp))
    · rw [if_neg c] at hp
      have hlen := ofr_len l F (prm (xp (gt l i) (gt l j)))
      have hle := pls_le l (gt l i) (l.drop (j + 1)) (ofr l F (prm (xp (gt l i) (gt l j))))
      rw [hp] at hle
      rw [decide_eq_true c]
      refine ⟨fun c_ => absurd c_ (by decide), fun c_ => ?_⟩
      conv => whnf
      refine hK _ _ _ _ _ _ (go hc 6 (fun K hK => ?_))
      conv => whnf
      refine ⟨_, hm.M, Nat.le_of_ble_eq_true rfl, ?_⟩
      conv => whnf
      refine callee hc (e_off hm ha hl hla f2' rfl n2 (r1.eq (f2 6 (by decide))) (by omega) k1 v1 (bd_prm hbx) hb ?_)
      intro m3 h3 hm r3 n3 f3 e3 k3
      conv => whnf
      try simp only [nI_1]
      refine hK _ _ _ _ _ _ (Runs.less hc [0, 1, 2, 5, 6] rfl rfl rfl rfl (ih _ m3 h3 _ (by omega) hm r3 n3 f3 k3 hp))
theorem du_i {call : Callee} (hc : call = wpC sc (d + 4)) {m0 : MM} (ha : a = 4 ∨ a = 5) (hl : RW m0 a 0 l) (hla : l.length ≤ 600) (hb : ∀ v ∈ l, bdV 2700 v) {R : List V3} (hR : R.length ≤ 598)
    (hQ : ∀ m' h', MR m' D Z h' → RW m' 6 0 R → m' 16 0 = (R.length : Int) → Fx [6, 7, 8, 16] m0 m' → (∀ f ∈ R, bdV 400000000000 f) → Q (.inl none) h') :
    ∀ (n i : Nat) (m : MM) (h : PH) (F : List V3), i + n = l.length → MR m D Z h → RW m 6 0 F → m 16 0 = (F.length : Int) → Fx [6, 7, 8, 16] m0 m → (∀ f ∈ F, bdV 400000000000 f) → prs l (l.drop i) F = R →
    Runs (d + 4) call sc m_X4_dual Q 210 [(0, .ref 60), (1, .ref (a + 60)), (2, .int (nI l.length)), (5, .int (nI i))] [] h 0 0 := by
  intro n
  induction n with
  | zero =>
    intro i m h F hi hm r1 n1 f1 k1 hp
    rw [List.drop_eq_nil_of_le (by omega)] at hp
    have hp : F = R := hp
    subst hp
    refine go hc 3 (fun K hK => ?_)
    conv => whnf
    refine ⟨fun c_ => ?_, fun c_ => absurd (nI_le (by omega) (by omega)) c_⟩
    conv => whnf
    refine hK _ _ _ _ _ _ (go hc 1 (fun K hK => ?_))
    conv => whnf
    exact hQ m h hm r1 n1 f1 k1
  | succ n ih =>
    intro i m h F hi hm r1 n1 f1 k1 hp
    have hil : i < l.length := by omega
    rw [drop_gt hil] at hp
    unfold prs at hp
    have hle := prs_le l (l.drop (i + 1)) (pls l (gt l i) (l.drop (i + 1)) F)
    rw [hp] at hle
    refine go hc 3 (fun K hK => ?_)
    conv => whnf
    refine ⟨fun c_ => absurd c_ (nI_ge hil (by omega)), fun c_ => ?_⟩
    conv => whnf
    refine hK _ _ _ _ _ _ (go hc 4 (fun K hK => ?_))
    conv => whnf
    try simp only [nI_1]
    refine hK _ _ _ _ _ _ (Runs.less hc [0, 1, 2, 5, 6] rfl rfl rfl rfl (du_j hc ha hl hla hb hil (R := pls l (gt l i) (l.drop (i + 1)) F) (by omega) (fun m' h' hm' r' n' f' k' => ih _ m' h' _ (by omega) hm' r' n' f' k' hp) n (i + 1) m h F (by omega) hm r1 n1 f1 k1 rfl))
theorem e_dual (hm : MR m D Z h) (ha : a = 4 ∨ a = 5) (hl : RW m a 0 l) (hl0 : 0 < l.length) (hla : l.length ≤ 600) {N : Int32} (hN : N = nI l.length) (hb : ∀ v ∈ l, bdV 2700 v) (hR : (dualF l).length ≤ 598)
    (hQ : ∀ m' h', MR m' D Z h' → RW m' 6 0 (dualF l) → m' 16 0 = ((dualF l).length : Int) → Fx [6, 7, 8, 16] m m' → (∀ f ∈ dualF l, bdV 400000000000 f) → Q (.inl none) h') : wpC sc (d + 5) 88 [.ref 60, .ref (a + 60), .int N] h Q := by
  subst hN
  have ha4 : a ∉ [6, 7, 8, 16] := by rcases ha with h | h <;> rw [h] <;> decide
  refine enter rfl rfl (fun call hc => go hc 7 (fun K hK => ?_))
  conv => whnf
  refine ⟨_, hm.M, Nat.le_of_ble_eq_true rfl, ?_⟩
  replace hm := hm.fn (v := 0) rfl
  have f0 : Fx [6, 7, 8, 16] m (mu m 16 0 0) := Fx.refl.mu (by decide)
  have z0 : mu m 16 0 0 16 0 = 0 := mu_at _ _ _ _
  generalize mu m 16 0 0 = mz at *
  conv => whnf
  try simp only [nI_1]
  refine hK _ _ _ _ _ _ (Runs.less hc [0, 1, 2, 3, 4] rfl rfl rfl rfl (du_sec (Q := qth _ Q) hc ha hl hla hb (o := secF l (l.length - 1) 1) ?_ ?_ (l.length - 1) 1 mz _ (by omega) (by omega) rfl hm f0 z0))
  · intro ho m1 h1 hm f1 z1
    unfold dualF at hQ
    rw [ho] at hQ
    refine go hc 2 (fun K hK => ?_)
    conv => whnf
    refine ⟨fun c_ => absurd c_ (by decide), fun c_ => ?_⟩
    conv => whnf
    refine hK _ _ _ _ _ _ (go hc 5 (fun K hK => ?_))
    conv => whnf
    refine ⟨_, hm.M, Nat.le_of_ble_eq_true rfl, ?_⟩
    conv => whnf
    refine callee hc (e_oneWay hm ha hl hl0 hla f1 rfl z1 hb ?_)
    intro m2 h2 hm r2 n2 f2 k2
    conv => whnf
    exact hQ m2 h2 hm r2 n2 f2 k2
  · intro k ho hk m1 h1 hm f1 z1 v1
    unfold dualF at hQ hR
    rw [ho] at hQ hR
    have hQ : ∀ m' h', MR m' D Z h' → RW m' 6 0 (dualN l (prm (xp (gt l 0) (gt l k)))) → m' 16 0 = ((dualN l (prm (xp (gt l 0) (gt l k)))).length : Int) → Fx [6, 7, 8, 16] m m' → (∀ f ∈ dualN l (prm (xp (gt l 0) (gt l k))), bdV 400000000000 f) → Q (.inl none) h' := hQ
    have hR : (dualN l (prm (xp (gt l 0) (gt l k)))).length ≤ 598 := hR
    have hnb : bdV 14580000 (prm (xp (gt l 0) (gt l k))) := bd_prm ((bd_xp (hb _ (gt_mem hl0)) (hb _ (gt_mem hk))).mono (by decide))
    generalize prm (xp (gt l 0) (gt l k)) = nv at *
    refine go hc 2 (fun K hK => ?_)
    conv => whnf
    refine ⟨fun c_ => ?_, fun c_ => absurd (show nI 0 ≤ nI k from nI_le (by omega) (by omega)) c_⟩
    conv => whnf
    refine hK _ _ _ _ _ _ ?_
    refine go hc 5 (fun K hK => ?_)
    conv => whnf
    refine ⟨fun c_ => absurd c_ (by decide), fun c_ => ?_⟩
    conv => whnf
    refine hK _ _ _ _ _ _ (go hc 13 (fun K hK => ?_))
    conv => whnf
    refine ⟨_, _, hm.M, rfl, ?_⟩
    conv => whnf
    refine ⟨_, _, hm.M, rfl, ?_⟩
    conv => whnf
    refine ⟨_, _, hm.L7, ixv (k := 0) ((rfl : (0 : Int32) = nI 0)) (by omega) (Nat.le_of_ble_eq_true rfl), ?_⟩
    rw [ixc (k := 0) ((rfl : (0 : Int32) = nI 0)) (by omega)]
    conv => whnf
    refine ⟨_, _, hm.L8, ixv (k := 0) ((rfl : (0 : Int32) = nI 0)) (by omega) (Nat.le_of_ble_eq_true rfl), ?_⟩
    rw [ixc (k := 0) ((rfl : (0 : Int32) = nI 0)) (by omega)]
    replace hm := hm.sL (a := 8) (i := 0) (by decide) ((rfl : mL m1 7 0 = Int64.ofInt (m1 7 0)))
    conv => whnf
    refine ⟨fun c_ => absurd c_ (by decide), fun c_ => ?_⟩
    conv => whnf
    refine hK _ _ _ _ _ _ (go hc 13 (fun K hK => ?_))
    conv => whnf
    refine ⟨_, _, hm.M, rfl, ?_⟩
    conv => whnf
    refine ⟨_, _, hm.M, rfl, ?_⟩
    conv => whnf
    refine ⟨_, _, hm.L7, ixv (k := 0 + 1) (ia ((rfl : (0 : Int32) = nI 0)) (rfl : (1 : Int32) = nI 1)) (by omega) (Nat.le_of_ble_eq_true rfl), ?_⟩
    rw [ixc (k := 0 + 1) (ia ((rfl : (0 : Int32) = nI 0)) (rfl : (1 : Int32) = nI 1)) (by omega)]
    conv => whnf
    refine ⟨_, _, hm.L8, ixv (k := 0 + 1) (ia ((rfl : (0 : Int32) = nI 0)) (rfl : (1 : Int32) = nI 1)) (by omega) (Nat.le_of_ble_eq_true rfl), ?_⟩
    rw [ixc (k := 0 + 1) (ia ((rfl : (0 : Int32) = nI 0)) (rfl : (1 : Int32) = nI 1)) (by omega)]
    replace hm := hm.sL (a := 8) (i := 0 + 1) (by decide) ((rfl : mL m1 7 1 = Int64.ofInt (m1 7 1)))
    conv => whnf
    refine ⟨fun c_ => absurd c_ (by decide), fun c_ => ?_⟩
    conv => whnf
    refine hK _ _ _ _ _ _ (go hc 13 (fun K hK => ?_))
    conv => whnf
    refine ⟨_, _, hm.M, rfl, ?_⟩
    conv => whnf
    refine ⟨_, _, hm.M, rfl, ?_⟩
    conv => whnf
    refine ⟨_, _, hm.L7, ixv (k := 0 + 1 + 1) (ia (ia ((rfl : (0 : Int32) = nI 0)) (rfl : (1 : Int32) = nI 1)) (rfl : (1 : Int32) = nI 1)) (by omega) (Nat.le_of_ble_eq_true rfl), ?_⟩
    rw [ixc (k := 0 + 1 + 1) (ia (ia ((rfl : (0 : Int32) = nI 0)) (rfl : (1 : Int32) = nI 1)) (rfl : (1 : Int32) = nI 1)) (by omega)]
    conv => whnf
    refine ⟨_, _, hm.L8, ixv (k := 0 + 1 + 1) (ia (ia ((rfl : (0 : Int32) = nI 0)) (rfl : (1 : Int32) = nI 1)) (rfl : (1 : Int32) = nI 1)) (by omega) (Nat.le_of_ble_eq_true rfl), ?_⟩
    rw [ixc (k := 0 + 1 + 1) (ia (ia ((rfl : (0 : Int32) = nI 0)) (rfl : (1 : Int32) = nI 1)) (rfl : (1 : Int32) = nI 1)) (by omega)]
    replace hm := hm.sL (a := 8) (i := 0 + 1 + 1) (by decide) ((rfl : mL m1 7 2 = Int64.ofInt (m1 7 2)))
    conv => whnf
    generalize hg : mu (mu (mu m1 8 0 (m1 7 0)) 8 (0 + 1) (m1 7 1)) 8 (0 + 1 + 1) (m1 7 2) = m2 at hm
    have v2 : vAt m2 8 0 = nv := by rw [← hg, ← v1]; rfl
    have f2 : Fx [6, 7, 8, 16] m1 m2 := by rw [← hg]; exact ((Fx.refl.mu (by decide)).mu (by decide)).mu (by decide)
    have z2 : m2 16 0 = 0 := by rw [← hg]; exact z1
    have f2' := f1.trans f2
    refine ⟨fun c_ => ?_, fun c_ => absurd (by decide) c_⟩
    conv => whnf
    refine hK _ _ _ _ _ _ ?_
    refine go hc 4 (fun K hK => ?_)
    conv => whnf
    try simp only [nI_1]
    refine hK _ _ _ _ _ _ (Runs.less hc [0, 1, 2, 3, 4, 5] rfl rfl rfl rfl (du_pla (Q := qth _ Q) hc hm ha (hl.eq (f2' a ha4)) hla hb v2 (hnb.mono (by decide)) l.length 0 true (by omega) ?_))
    rw [Bool.true_and, List.drop_zero]
    have emp : RW m2 6 0 [] := fun i hi => absurd hi (Nat.not_lt_zero _)
    unfold dualN at hQ hR
    cases hp : plaB nv l with
    | true =>
      rw [if_pos hp] at hQ hR
      have hle := pls_le l nv l (ofr l [] (prm nv))
      refine go hc 2 (fun K hK => ?_)
      conv => whnf
      refine ⟨fun c_ => absurd c_ (by decide), fun c_ => ?_⟩
      conv => whnf
      refine hK _ _ _ _ _ _ (go hc 20 (fun K hK => ?_))
      conv => whnf
      refine ⟨_, _, hm.M, rfl, ?_⟩
      conv => whnf
      refine ⟨_, _, hm.L8, ixv (k := 0) ((rfl : (0 : Int32) = nI 0)) (by omega) (Nat.le_of_ble_eq_true rfl), ?_⟩
      rw [ixc (k := 0) ((rfl : (0 : Int32) = nI 0)) (by omega)]
      conv => whnf
      refine ⟨_, _, hm.M, rfl, ?_⟩
      conv => whnf
      refine ⟨_, _, hm.L8, ixv (k := 1) ((rfl : (1 : Int32) = nI 1)) (by omega) (Nat.le_of_ble_eq_true rfl), ?_⟩
      rw [ixc (k := 1) ((rfl : (1 : Int32) = nI 1)) (by omega)]
      conv => whnf
      refine ⟨_, _, hm.M, rfl, ?_⟩
      conv => whnf
      refine ⟨_, _, hm.L8, ixv (k := 2) ((rfl : (2 : Int32) = nI 2)) (by omega) (Nat.le_of_ble_eq_true rfl), ?_⟩
      rw [ixc (k := 2) ((rfl : (2 : Int32) = nI 2)) (by omega)]
      conv => whnf
      refine ⟨_, hm.M, Nat.le_of_ble_eq_true rfl, ?_⟩
      conv => whnf
      refine callee hc (e_put hm nv (by unfold mL; rw [show m2 8 0 = nv.1 from congrArg Prod.fst v2]) (by unfold mL; rw [show m2 8 1 = nv.2.1 from congrArg (fun v : V3 => v.2.1) v2]) (by unfold mL; rw [show m2 8 2 = nv.2.2 from congrArg (fun v : V3 => v.2.2) v2]) (hnb.inV (by decide)) ?_)
      intro m3 h3 hm v3 f3
      conv => whnf
      refine ⟨_, hm.M, Nat.le_of_ble_eq_true rfl, ?_⟩
      conv => whnf
      refine callee hc (e_off (F := []) hm ha hl hla (f2'.trans (f3.mono (by decide))) rfl (by rw [f3 16 (by decide)]; exact z2) (emp.eq (f3 6 (by decide))) (by simp) (fun f hf => absurd hf List.not_mem_nil) v3 ((bd_prm hnb).mono (by decide)) hb ?_)
      intro m4 h4 hm r4 n4 f4 e4 k4
      conv => whnf
      try simp only [nI_1]
      refine hK _ _ _ _ _ _ (Runs.less hc [0, 1, 2, 5] rfl rfl rfl rfl (du_in (Q := qth _ Q) hc ha hl hla hb hnb (R := pls l nv l (ofr l [] (prm nv))) hR hQ l.length 0 m4 h4 _ (by omega) hm r4 n4 f4 (by rw [vAt_eq e4, vAt_eq (f3 8 (by decide))]; exact v2) k4 rfl))
    | false =>
      rw [if_neg (by rw [hp]; decide)] at hQ hR
      refine go hc 2 (fun K hK => ?_)
      conv => whnf
      refine ⟨fun c_ => ?_, fun c_ => absurd (rfl) c_⟩
      conv => whnf
      refine hK _ _ _ _ _ _ ?_
      refine go hc 2 (fun K hK => ?_)
      conv => whnf
      try simp only [nI_1]
      refine hK _ _ _ _ _ _ (Runs.less hc [0, 1, 2, 5] rfl rfl rfl rfl (du_i (Q := qth _ Q) hc ha hl hla hb (R := prs l l []) hR hQ l.length 0 m2 _ [] (by omega) hm emp z2 f2' (fun f hf => absurd hf List.not_mem_nil) rfl))
end EDUAL
