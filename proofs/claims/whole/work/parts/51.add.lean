/-! copying what has been found; adding rows -/
def agF (G : List V3) (v : V3) : List V3 := if v = (0, 0, 0) then G else G ++ [v]
def acF (Kc : List V3) (v : V3) (b : Bool) : List V3 := if v = (0, 0, 0) then Kc else if b = true then (Kc ++ [v]) ++ [neg3 v] else Kc ++ [v]
section EADD
variable {sc : Scr} {d : Nat} {m : MM} {D Z h : PH} {Q : Out → PH → Prop} {F G Kc l : List V3}
theorem RW.copy {m m' : MM} {a b : Nat} {l : List V3} (h : RW m a 0 l) (hc : ∀ j, j < 3 * l.length → m' b j = m a j) : RW m' b 0 l := fun i hi => by
  rw [← h i hi]
  unfold vAt
  rw [hc _ (by omega), hc _ (by omega), hc _ (by omega)]
theorem tc_loop {call : Callee} (hc : call = wpC sc d) (hFl : F.length ≤ 600) {m0 : MM} (F16 : m0 16 0 = (F.length : Int))
    (hQ : ∀ m' h', MR m' D Z h' → (∀ j, j < 3 * F.length → m' 5 j = m0 6 j) → Fx [5] m0 m' → Q (.inl none) h') :
    ∀ (n i : Nat) (m : MM) (h : PH), i + n = 3 * F.length → MR m D Z h → (∀ j, j < i → m 5 j = m0 6 j) → Fx [5] m0 m → Runs d call sc m_X4_toConstraints Q 22 [(0, .ref 60), (1, .int (nI i))] [] h 0 0 := by
  intro n
  induction n with
  | zero =>
    intro i m h hi hm hj hf
    have F7 : mF m 16 = nI F.length := mF_of (by rw [hf 16 (by decide)]; exact F16)
    refine go hc 6 (fun K hK => ?_)
    conv => whnf
    refine ⟨_, _, hm.M, rfl, ?_⟩
    rw [F7]
    conv => whnf
    refine ⟨fun c_ => ?_, fun c_ => absurd (by rw [show (3 : Int32) = nI 3 from rfl, pk_mul]; exact nI_le (by omega) (by omega)) c_⟩
    conv => whnf
    refine hK _ _ _ _ _ _ (go hc 1 (fun K hK => ?_))
    conv => whnf
    exact hQ m h hm (fun j h => hj j (by omega)) hf
  | succ n ih =>
    intro i m h hi hm hj hf
    have F7 : mF m 16 = nI F.length := mF_of (by rw [hf 16 (by decide)]; exact F16)
    refine go hc 6 (fun K hK => ?_)
    conv => whnf
    refine ⟨_, _, hm.M, rfl, ?_⟩
    rw [F7]
    conv => whnf
    refine ⟨fun c_ => absurd c_ (by rw [show (3 : Int32) = nI 3 from rfl, pk_mul]; exact nI_ge (by omega) (by omega)), fun c_ => ?_⟩
    conv => whnf
    refine hK _ _ _ _ _ _ (go hc 10 (fun K hK => ?_))
    conv => whnf
    refine ⟨_, _, hm.M, rfl, ?_⟩
    conv => whnf
    refine ⟨_, _, hm.M, rfl, ?_⟩
    conv => whnf
    refine ⟨_, _, hm.L6, ixv (k := i) ((rfl : nI (i) = nI (i))) (by omega) (Nat.le_of_ble_eq_true rfl), ?_⟩
    rw [ixc (k := i) ((rfl : nI (i) = nI (i))) (by omega)]
    conv => whnf
    refine ⟨_, _, hm.L5, ixv (k := i) ((rfl : nI (i) = nI (i))) (by omega) (Nat.le_of_ble_eq_true rfl), ?_⟩
    rw [ixc (k := i) ((rfl : nI (i) = nI (i))) (by omega)]
    replace hm := hm.sL (a := 5) (i := i) (by decide) ((rfl : mL m 6 i = Int64.ofInt (m 6 i)))
    conv => whnf
    have hj' : ∀ j, j < i + 1 → mu m 5 i (m 6 i) 5 j = m0 6 j := fun j h => by
      by_cases c : j = i
      · rw [c, mu_at, hf 6 (by decide)]
      · rw [mu_at_ne _ _ _ c]; exact hj j (by omega)
    try simp only [nI_1]
    refine hK _ _ _ _ _ _ (Runs.less hc [0, 1] rfl rfl rfl rfl (ih (i + 1) _ _ (by omega) hm hj' (hf.mu (by decide))))
theorem tg_loop {call : Callee} (hc : call = wpC sc d) (hFl : F.length ≤ 600) {m0 : MM} (F16 : m0 16 0 = (F.length : Int))
    (hQ : ∀ m' h', MR m' D Z h' → (∀ j, j < 3 * F.length → m' 4 j = m0 6 j) → Fx [4] m0 m' → Q (.inl none) h') :
    ∀ (n i : Nat) (m : MM) (h : PH), i + n = 3 * F.length → MR m D Z h → (∀ j, j < i → m 4 j = m0 6 j) → Fx [4] m0 m → Runs d call sc m_X4_toGenerators Q 64 [(0, .ref 60), (1, .int (nI i))] [] h 0 0 := by
  intro n
  induction n with
  | zero =>
    intro i m h hi hm hj hf
    have F7 : mF m 16 = nI F.length := mF_of (by rw [hf 16 (by decide)]; exact F16)
    refine go hc 6 (fun K hK => ?_)
    conv => whnf
    refine ⟨_, _, hm.M, rfl, ?_⟩
    rw [F7]
    conv => whnf
    refine ⟨fun c_ => ?_, fun c_ => absurd (by rw [show (3 : Int32) = nI 3 from rfl, pk_mul]; exact nI_le (by omega) (by omega)) c_⟩
    conv => whnf
    refine hK _ _ _ _ _ _ (go hc 1 (fun K hK => ?_))
    conv => whnf
    exact hQ m h hm (fun j h => hj j (by omega)) hf
  | succ n ih =>
    intro i m h hi hm hj hf
    have F7 : mF m 16 = nI F.length := mF_of (by rw [hf 16 (by decide)]; exact F16)
    refine go hc 6 (fun K hK => ?_)
    conv => whnf
    refine ⟨_, _, hm.M, rfl, ?_⟩
    rw [F7]
    conv => whnf
    refine ⟨fun c_ => absurd c_ (by rw [show (3 : Int32) = nI 3 from rfl, pk_mul]; exact nI_ge (by omega) (by omega)), fun c_ => ?_⟩
    conv => whnf
    refine hK _ _ _ _ _ _ (go hc 10 (fun K hK => ?_))
    conv => whnf
    refine ⟨_, _, hm.M, rfl, ?_⟩
    conv => whnf
    refine ⟨_, _, hm.M, rfl, ?_⟩
    conv => whnf
    refine ⟨_, _, hm.L6, ixv (k := i) ((rfl : nI (i) = nI (i))) (by omega) (Nat.le_of_ble_eq_true rfl), ?_⟩
    rw [ixc (k := i) ((rfl : nI (i) = nI (i))) (by omega)]
    conv => whnf
    refine ⟨_, _, hm.L4, ixv (k := i) ((rfl : nI (i) = nI (i))) (by omega) (Nat.le_of_ble_eq_true rfl), ?_⟩
    rw [ixc (k := i) ((rfl : nI (i) = nI (i))) (by omega)]
    replace hm := hm.sL (a := 4) (i := i) (by decide) ((rfl : mL m 6 i = Int64.ofInt (m 6 i)))
    conv => whnf
    have hj' : ∀ j, j < i + 1 → mu m 4 i (m 6 i) 4 j = m0 6 j := fun j h => by
      by_cases c : j = i
      · rw [c, mu_at, hf 6 (by decide)]
      · rw [mu_at_ne _ _ _ c]; exact hj j (by omega)
    try simp only [nI_1]
    refine hK _ _ _ _ _ _ (Runs.less hc [0, 1] rfl rfl rfl rfl (ih (i + 1) _ _ (by omega) hm hj' (hf.mu (by decide))))
theorem e_toConstraints (hm : MR m D Z h) (hG : RW m 4 0 G) (hgn : m 14 0 = (G.length : Int)) (hG0 : 0 < G.length) (hGl : G.length ≤ 600) (hb : ∀ v ∈ G, bdV 2700 v) (hR : (dualF G).length ≤ 598)
    (hQ : ∀ m' h', MR m' D Z h' → RW m' 5 0 (dualF G) → m' 15 0 = ((dualF G).length : Int) → Fx [5, 6, 7, 8, 15, 16] m m' → (∀ f ∈ dualF G, bdV 400000000000 f) → Q (.inl none) h') : wpC sc (d + 6) 90 [.ref 60] h Q := by
  have F5 := mF_of hgn
  refine enter rfl rfl (fun call hc => go hc 12 (fun K hK => ?_))
  conv => whnf
  refine ⟨_, _, hm.M, rfl, ?_⟩
  conv => whnf
  refine ⟨_, _, hm.M, rfl, ?_⟩
  rw [F5]
  conv => whnf
  refine ⟨_, hm.M, Nat.le_of_ble_eq_true rfl, ?_⟩
  conv => whnf
  refine callee hc (e_dual hm (a := 4) (l := G) (Or.inl rfl) hG hG0 hGl rfl hb hR ?_)
  intro m1 h1 hm r1 n1 f1 k1
  conv => whnf
  refine ⟨_, _, hm.M, rfl, ?_⟩
  conv => whnf
  refine ⟨_, hm.M, Nat.le_of_ble_eq_true rfl, ?_⟩
  replace hm := hm.kn (v := ((dualF G).length : Int)) (show mF m1 16 = Int32.ofInt ((dualF G).length : Int) by unfold mF; rw [n1])
  have r2 : RW (mu m1 15 0 ((dualF G).length : Int)) 6 0 (dualF G) := r1
  have n2 : mu m1 15 0 ((dualF G).length : Int) 16 0 = ((dualF G).length : Int) := n1
  have n3 : mu m1 15 0 ((dualF G).length : Int) 15 0 = ((dualF G).length : Int) := mu_at _ _ _ _
  have f2 : Fx [5, 6, 7, 8, 15, 16] m (mu m1 15 0 ((dualF G).length : Int)) := (f1.mono (by decide)).mu (by decide)
  generalize mu m1 15 0 ((dualF G).length : Int) = m2 at *
  conv => whnf
  try simp only [nI_1]
  refine hK _ _ _ _ _ _ (Runs.less hc [0, 1] rfl rfl rfl rfl (tc_loop (Q := qth _ Q) (F := dualF G) hc (by omega) n2 (fun m3 h3 hm3 c3 f3 => hQ m3 h3 hm3 (RW.copy r2 c3) (by rw [f3 15 (by decide)]; exact n3) (f2.trans (f3.mono (by decide))) k1) (3 * (dualF G).length) 0 m2 _ (by omega) hm (fun j h => by omega) Fx.refl))
theorem e_toGenerators (hm : MR m D Z h) (hK0 : RW m 5 0 Kc) (hkn : m 15 0 = (Kc.length : Int)) (hKl : Kc.length + 1 ≤ 600) (hb : ∀ v ∈ Kc, bdV 2700 v) (hR : (dualF (Kc ++ [(1, 0, 0)])).length ≤ 598)
    (hQ : ∀ m' h', MR m' D Z h' → RW m' 4 0 (dualF (Kc ++ [(1, 0, 0)])) → m' 14 0 = ((dualF (Kc ++ [(1, 0, 0)])).length : Int) → RW m' 5 0 Kc → Fx [4, 5, 6, 7, 8, 14, 16] m m' → (∀ f ∈ dualF (Kc ++ [(1, 0, 0)]), bdV 400000000000 f) → Q (.inl none) h') : wpC sc (d + 6) 91 [.ref 60] h Q := by
  have F6 := mF_of hkn
  have hlen : (Kc ++ [((1, 0, 0) : V3)]).length = Kc.length + 1 := by rw [List.length_append]; rfl
  have hb' : ∀ v ∈ Kc ++ [((1, 0, 0) : V3)], bdV 2700 v := fun v hv => by
    rcases List.mem_append.mp hv with h | h
    · exact hb v h
    · rw [List.mem_singleton.mp h]; unfold bdV bdI; simp
  refine enter rfl rfl (fun call hc => go hc 42 (fun K hK => ?_))
  conv => whnf
  refine ⟨_, _, hm.M, rfl, ?_⟩
  conv => whnf
  refine ⟨_, _, hm.M, rfl, ?_⟩
  rw [F6]
  conv => whnf
  refine ⟨_, _, hm.L5, ixv (k := (3) * (Kc.length)) (im ((rfl : (3 : Int32) = nI 3)) ((rfl : nI (Kc.length) = nI (Kc.length)))) (by omega) (Nat.le_of_ble_eq_true rfl), ?_⟩
  rw [ixc (k := (3) * (Kc.length)) (im ((rfl : (3 : Int32) = nI 3)) ((rfl : nI (Kc.length) = nI (Kc.length)))) (by omega)]
  replace hm := hm.sL (a := 5) (i := (3) * (Kc.length)) (by decide) (oI_1)
  generalize hg1 : mu m 5 (3 * Kc.length) 1 = m1 at hm
  replace F6 : mF m1 15 = nI Kc.length := by rw [← hg1]; exact F6
  conv => whnf
  refine ⟨_, _, hm.M, rfl, ?_⟩
  conv => whnf
  refine ⟨_, _, hm.M, rfl, ?_⟩
  rw [F6]
  conv => whnf
  refine ⟨_, _, hm.L5, ixv (k := ((3) * (Kc.length)) + (1)) (ia (im ((rfl : (3 : Int32) = nI 3)) ((rfl : nI (Kc.length) = nI (Kc.length)))) ((rfl : (1 : Int32) = nI 1))) (by omega) (Nat.le_of_ble_eq_true rfl), ?_⟩
  rw [ixc (k := ((3) * (Kc.length)) + (1)) (ia (im ((rfl : (3 : Int32) = nI 3)) ((rfl : nI (Kc.length) = nI (Kc.length)))) ((rfl : (1 : Int32) = nI 1))) (by omega)]
  replace hm := hm.sL (a := 5) (i := ((3) * (Kc.length)) + (1)) (by decide) (oI_0)
  generalize hg2 : mu m1 5 (3 * Kc.length + 1) 0 = m2 at hm
  replace F6 : mF m2 15 = nI Kc.length := by rw [← hg2]; exact F6
  conv => whnf
  refine ⟨_, _, hm.M, rfl, ?_⟩
  conv => whnf
  refine ⟨_, _, hm.M, rfl, ?_⟩
  rw [F6]
  conv => whnf
  refine ⟨_, _, hm.L5, ixv (k := ((3) * (Kc.length)) + (2)) (ia (im ((rfl : (3 : Int32) = nI 3)) ((rfl : nI (Kc.length) = nI (Kc.length)))) ((rfl : (2 : Int32) = nI 2))) (by omega) (Nat.le_of_ble_eq_true rfl), ?_⟩
  rw [ixc (k := ((3) * (Kc.length)) + (2)) (ia (im ((rfl : (3 : Int32) = nI 3)) ((rfl : nI (Kc.length) = nI (Kc.length)))) ((rfl : (2 : Int32) = nI 2))) (by omega)]
  replace hm := hm.sL (a := 5) (i := ((3) * (Kc.length)) + (2)) (by decide) (oI_0)
  generalize hg3 : mu m2 5 (3 * Kc.length + 2) 0 = m3 at hm
  replace F6 : mF m3 15 = nI Kc.length := by rw [← hg3]; exact F6
  have f3 : Fx [4, 5, 6, 7, 8, 14, 16] m m3 := by rw [← hg3, ← hg2, ← hg1]; exact ((Fx.refl.mu (by decide)).mu (by decide)).mu (by decide)
  have o3 : ∀ j, j < 3 * Kc.length → m3 5 j = m 5 j := fun j hj => by rw [← hg3, mu_at_ne _ _ _ (by omega), ← hg2, mu_at_ne _ _ _ (by omega), ← hg1, mu_at_ne _ _ _ (by omega)]
  have r3 : RW m3 5 0 (Kc ++ [(1, 0, 0)]) := RW.push hK0 (fun j hj => o3 j (by omega)) (by rw [Nat.zero_add]; unfold vAt; rw [← hg3, mu_at, mu_at_ne _ _ _ (by omega), mu_at_ne _ _ _ (by omega), ← hg2, mu_at, mu_at_ne _ _ _ (by omega), ← hg1, mu_at])
  conv => whnf
  refine ⟨_, _, hm.M, rfl, ?_⟩
  conv => whnf
  refine ⟨_, _, hm.M, rfl, ?_⟩
  rw [F6]
  conv => whnf
  refine ⟨_, hm.M, Nat.le_of_ble_eq_true rfl, ?_⟩
  conv => whnf
  refine callee hc (e_dual hm (a := 5) (l := Kc ++ [(1, 0, 0)]) (Or.inr rfl) r3 (by omega) (by omega) (by rw [hlen, ← nI_1]) hb' hR ?_)
  intro m4 h4 hm r4 n4 f4 k4
  conv => whnf
  refine ⟨_, _, hm.M, rfl, ?_⟩
  conv => whnf
  refine ⟨_, hm.M, Nat.le_of_ble_eq_true rfl, ?_⟩
  replace hm := hm.gn (v := ((dualF (Kc ++ [(1, 0, 0)])).length : Int)) (show mF m4 16 = Int32.ofInt ((dualF (Kc ++ [(1, 0, 0)])).length : Int) by unfold mF; rw [n4])
  have f5 : Fx [4, 5, 6, 7, 8, 14, 16] m (mu m4 14 0 ((dualF (Kc ++ [(1, 0, 0)])).length : Int)) := (f3.trans (f4.mono (by decide))).mu (by decide)
  have r5 : RW (mu m4 14 0 ((dualF (Kc ++ [(1, 0, 0)])).length : Int)) 6 0 (dualF (Kc ++ [(1, 0, 0)])) := r4
  have n5 : mu m4 14 0 ((dualF (Kc ++ [(1, 0, 0)])).length : Int) 16 0 = ((dualF (Kc ++ [(1, 0, 0)])).length : Int) := n4
  have n6 : mu m4 14 0 ((dualF (Kc ++ [(1, 0, 0)])).length : Int) 14 0 = ((dualF (Kc ++ [(1, 0, 0)])).length : Int) := mu_at _ _ _ _
  have k5 : RW (mu m4 14 0 ((dualF (Kc ++ [(1, 0, 0)])).length : Int)) 5 0 Kc := RW.copy hK0 (fun j hj => by rw [mu_ne _ _ _ (by decide), f4 5 (by decide)]; exact o3 j hj)
  generalize mu m4 14 0 ((dualF (Kc ++ [(1, 0, 0)])).length : Int) = m5 at *
  conv => whnf
  try simp only [nI_1]
  refine hK _ _ _ _ _ _ (Runs.less hc [0, 1] rfl rfl rfl rfl (tg_loop (Q := qth _ Q) (F := dualF (Kc ++ [(1, 0, 0)])) hc (by omega) n5 (fun m6 h6 hm6 c6 f6 => hQ m6 h6 hm6 (RW.copy r5 c6) (by rw [f6 14 (by decide)]; exact n6) (k5.eq (f6 5 (by decide))) (f5.trans (f6.mono (by decide))) k4) (3 * (dualF (Kc ++ [(1, 0, 0)])).length) 0 m5 _ (by omega) hm (fun j h => by omega) Fx.refl))
theorem e_addG (hm : MR m D Z h) (v : V3) {x y z : Int64} (hx : x = Int64.ofInt v.1) (hy : y = Int64.ofInt v.2.1) (hz : z = Int64.ofInt v.2.2) (hv : inV v) (hG : RW m 4 0 G) (hgn : m 14 0 = (G.length : Int)) (hGl : G.length < 600)
    (hQ : ∀ m' h', MR m' D Z h' → RW m' 4 0 (agF G v) → m' 14 0 = ((agF G v).length : Int) → Fx [4, 14] m m' → Q (.inl none) h') : wpC sc (d + 1) 92 [.ref 60, .long x, .long y, .long z] h Q := by
  subst hx; subst hy; subst hz
  have F5 := mF_of hgn
  unfold agF at hQ
  have go20 : ∀ {call : Callee}, call = wpC sc d → v ≠ (0, 0, 0) → Runs d call sc m_X4_addGenerator (qth (mTh m_X4_addGenerator) Q) 20 [(0, .ref 60), (1, .long (Int64.ofInt v.1)), (3, .long (Int64.ofInt v.2.1)), (5, .long (Int64.ofInt v.2.2))] [] h 0 0 := by
    intro call hc hne
    rw [if_neg hne] at hQ
    refine go hc 35 (fun K hK => ?_)
    conv => whnf
    refine ⟨_, _, hm.M, rfl, ?_⟩
    conv => whnf
    refine ⟨_, _, hm.M, rfl, ?_⟩
    rw [F5]
    conv => whnf
    refine ⟨_, _, hm.L4, ixv (k := (3) * (G.length)) (im ((rfl : (3 : Int32) = nI 3)) ((rfl : nI (G.length) = nI (G.length)))) (by omega) (Nat.le_of_ble_eq_true rfl), ?_⟩
    rw [ixc (k := (3) * (G.length)) (im ((rfl : (3 : Int32) = nI 3)) ((rfl : nI (G.length) = nI (G.length)))) (by omega)]
    replace hm := hm.sL (a := 4) (i := (3) * (G.length)) (by decide) ((rfl : Int64.ofInt v.1 = Int64.ofInt v.1))
    generalize hg1 : mu m 4 (3 * G.length) v.1 = m1 at hm
    replace F5 : mF m1 14 = nI G.length := by rw [← hg1]; exact F5
    conv => whnf
    refine ⟨_, _, hm.M, rfl, ?_⟩
    conv => whnf
    refine ⟨_, _, hm.M, rfl, ?_⟩
    rw [F5]
    conv => whnf
    refine ⟨_, _, hm.L4, ixv (k := ((3) * (G.length)) + (1)) (ia (im ((rfl : (3 : Int32) = nI 3)) ((rfl : nI (G.length) = nI (G.length)))) ((rfl : (1 : Int32) = nI 1))) (by omega) (Nat.le_of_ble_eq_true rfl), ?_⟩
    rw [ixc (k := ((3) * (G.length)) + (1)) (ia (im ((rfl : (3 : Int32) = nI 3)) ((rfl : nI (G.length) = nI (G.length)))) ((rfl : (1 : Int32) = nI 1))) (by omega)]
    replace hm := hm.sL (a := 4) (i := ((3) * (G.length)) + (1)) (by decide) ((rfl : Int64.ofInt v.2.1 = Int64.ofInt v.2.1))
    generalize hg2 : mu m1 4 (3 * G.length + 1) v.2.1 = m2 at hm
    replace F5 : mF m2 14 = nI G.length := by rw [← hg2]; exact F5
    conv => whnf
    refine ⟨_, _, hm.M, rfl, ?_⟩
    conv => whnf
    refine ⟨_, _, hm.M, rfl, ?_⟩
    rw [F5]
    conv => whnf
    refine ⟨_, _, hm.L4, ixv (k := ((3) * (G.length)) + (2)) (ia (im ((rfl : (3 : Int32) = nI 3)) ((rfl : nI (G.length) = nI (G.length)))) ((rfl : (2 : Int32) = nI 2))) (by omega) (Nat.le_of_ble_eq_true rfl), ?_⟩
    rw [ixc (k := ((3) * (G.length)) + (2)) (ia (im ((rfl : (3 : Int32) = nI 3)) ((rfl : nI (G.length) = nI (G.length)))) ((rfl : (2 : Int32) = nI 2))) (by omega)]
    replace hm := hm.sL (a := 4) (i := ((3) * (G.length)) + (2)) (by decide) ((rfl : Int64.ofInt v.2.2 = Int64.ofInt v.2.2))
    generalize hg3 : mu m2 4 (3 * G.length + 2) v.2.2 = m3 at hm
    replace F5 : mF m3 14 = nI G.length := by rw [← hg3]; exact F5
    conv => whnf
    refine ⟨_, _, hm.M, rfl, ?_⟩
    rw [F5]
    conv => whnf
    refine ⟨_, hm.M, Nat.le_of_ble_eq_true rfl, ?_⟩
    replace hm := hm.gn (v := ((G ++ [v]).length : Int)) (by rw [List.length_append, List.length_singleton, nI_ofI, ← nI_1])
    conv => whnf
    refine hQ _ _ hm ?_ (mu_at _ _ _ _) ?_
    · refine RW.push hG (fun j hj => ?_) ?_
      · show m3 4 j = m 4 j
        rw [← hg3, mu_at_ne _ _ _ (by omega), ← hg2, mu_at_ne _ _ _ (by omega), ← hg1, mu_at_ne _ _ _ (by omega)]
      · show vAt m3 4 (0 + 3 * G.length) = v
        rw [Nat.zero_add]
        unfold vAt
        rw [← hg3, mu_at, mu_at_ne _ _ _ (by omega), mu_at_ne _ _ _ (by omega), ← hg2, mu_at, mu_at_ne _ _ _ (by omega), ← hg1, mu_at]
    · refine Fx.mu ?_ (by decide)
      rw [← hg3, ← hg2, ← hg1]
      exact ((Fx.refl.mu (by decide)).mu (by decide)).mu (by decide)
  refine enter rfl rfl (fun call hc => go hc 4 (fun K hK => ?_))
  conv => whnf
  by_cases c1 : v.1 = 0
  · refine ⟨fun c_ => ?_, fun c_ => absurd ((kEq0 hv.1).mpr c1) c_⟩
    conv => whnf
    refine hK _ _ _ _ _ _ (go hc 4 (fun K hK => ?_))
    conv => whnf
    by_cases c2 : v.2.1 = 0
    · refine ⟨fun c_ => ?_, fun c_ => absurd ((kEq0 hv.2.1).mpr c2) c_⟩
      conv => whnf
      refine hK _ _ _ _ _ _ (go hc 4 (fun K hK => ?_))
      conv => whnf
      by_cases c3 : v.2.2 = 0
      · refine ⟨fun c_ => ?_, fun c_ => absurd ((kEq0 hv.2.2).mpr c3) c_⟩
        conv => whnf
        refine hK _ _ _ _ _ _ (go hc 1 (fun K hK => ?_))
        conv => whnf
        rw [if_pos (Prod.ext c1 (Prod.ext c2 c3))] at hQ
        exact hQ m h hm hG hgn Fx.refl
      · refine ⟨fun c_ => absurd c_ (fun q => c3 ((kEq0 hv.2.2).mp q)), fun c_ => ?_⟩
        conv => whnf
        try simp only [nI_1]
        refine hK _ _ _ _ _ _ (Runs.less hc [0, 1, 3, 5] rfl rfl rfl rfl (go20 hc fun q => c3 (congrArg (fun v : V3 => v.2.2) q)))
    · refine ⟨fun c_ => absurd c_ (fun q => c2 ((kEq0 hv.2.1).mp q)), fun c_ => ?_⟩
      conv => whnf
      try simp only [nI_1]
      refine hK _ _ _ _ _ _ (Runs.less hc [0, 1, 3, 5] rfl rfl rfl rfl (go20 hc fun q => c2 (congrArg (fun v : V3 => v.2.1) q)))
  · refine ⟨fun c_ => absurd c_ (fun q => c1 ((kEq0 hv.1).mp q)), fun c_ => ?_⟩
    conv => whnf
    try simp only [nI_1]
    refine hK _ _ _ _ _ _ (Runs.less hc [0, 1, 3, 5] rfl rfl rfl rfl (go20 hc fun q => c1 (congrArg Prod.fst q)))
end EADD
