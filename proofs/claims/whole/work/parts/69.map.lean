/-! the reference maps -/
def mpV (N : Nat → Int) (v : V3) : V3 := (v.1, N 0 * v.2.1 + N 1 * v.2.2 + N 4 * v.1, N 2 * v.2.1 + N 3 * v.2.2 + N 5 * v.1)
def bmV (N : Nat → Int) (v : V3) : V3 := (v.1 + v.2.1 * N 4 + v.2.2 * N 5, v.2.1 * N 0 + v.2.2 * N 2, v.2.1 * N 1 + v.2.2 * N 3)
def mpL (a : RSt) (i : Nat) : List V3 := agL [] ((agL [] (gnL a.1 i)).map (mpV a.2.1))
def mbL (a : RSt) (i : Nat) : List V3 := acL false (acL true [] ((a.1 i 0).map (bmV a.2.1))) ((a.1 i 1).map (bmV a.2.1))
def rMap (a : RSt) (i : Int32) (b : Bool) (t : Int32) : RR :=
  if slotB i = false ∨ slotB t = false then (1, 0, a) else if a.2.2.1 ≠ 6 then (2, 0, a)
  else if a.1 i.toNatClampNeg 4 = [] then (0, -1, (drT a.1 t.toNatClampNeg, a.2.1, 0, a.2.2.2))
  else if b = true then rFin a t.toNatClampNeg (ofC (mbL a i.toNatClampNeg)) 3 true else rFin a t.toNatClampNeg (ofG (mpL a i.toNatClampNeg)) 3 true
theorem oI_ta (a b c e f g : Int) : Int64.ofInt a * Int64.ofInt b + Int64.ofInt c * Int64.ofInt e + Int64.ofInt f * Int64.ofInt g = Int64.ofInt (a * b + c * e + f * g) := by rw [Int64.ofInt_add, Int64.ofInt_add, Int64.ofInt_mul, Int64.ofInt_mul, Int64.ofInt_mul]
theorem oI_tb (a c e f g : Int) : Int64.ofInt a + Int64.ofInt c * Int64.ofInt e + Int64.ofInt f * Int64.ofInt g = Int64.ofInt (a + c * e + f * g) := by rw [Int64.ofInt_add, Int64.ofInt_add, Int64.ofInt_mul, Int64.ofInt_mul]
theorem bd_mp {N : Nat → Int} (hN : ∀ i, i < 6 → bdI 30 (N i)) {v : V3} (h : bdV 30 v) : bdV 2700 (mpV N v) := by
  obtain ⟨h1, h2, h3⟩ := h
  have p1 := bd_mul2 (hN 0 (by omega)) h2; have p2 := bd_mul2 (hN 1 (by omega)) h3; have p3 := bd_mul2 (hN 4 (by omega)) h1
  have p4 := bd_mul2 (hN 2 (by omega)) h2; have p5 := bd_mul2 (hN 3 (by omega)) h3; have p6 := bd_mul2 (hN 5 (by omega)) h1
  unfold bdI at *
  unfold bdV mpV bdI
  simp only
  omega
theorem bd_bm {N : Nat → Int} (hN : ∀ i, i < 6 → bdI 30 (N i)) {v : V3} (h : bdV 30 v) : bdV 2700 (bmV N v) := by
  obtain ⟨h1, h2, h3⟩ := h
  have p1 := bd_mul2 h2 (hN 4 (by omega)); have p2 := bd_mul2 h3 (hN 5 (by omega)); have p3 := bd_mul2 h2 (hN 0 (by omega))
  have p4 := bd_mul2 h3 (hN 2 (by omega)); have p5 := bd_mul2 h2 (hN 1 (by omega)); have p6 := bd_mul2 h3 (hN 3 (by omega))
  unfold bdI at *
  unfold bdV bmV bdI
  simp only
  omega
theorem agL_mem {vs : List V3} : ∀ {G : List V3} {v : V3}, v ∈ agL G vs → v ∈ G ∨ v ∈ vs := by
  induction vs with
  | nil => exact fun h => Or.inl h
  | cons u vs ih =>
    intro G v h
    have h : v ∈ agL (agF G u) vs := h
    rcases ih h with q | q
    · unfold agF at q
      split at q
      · exact Or.inl q
      · rcases List.mem_append.mp q with q | q
        · exact Or.inl q
        · exact Or.inr (by rw [List.mem_singleton.mp q]; exact List.mem_cons_self)
    · exact Or.inr (List.mem_cons_of_mem _ q)
theorem gnL_bd {T : Tab} (hok : okT T) {i : Nat} (hi : i < 4) : ∀ v ∈ agL [] (gnL T i), bdV 30 v := fun v hv => by
  rcases agL_mem hv with q | q
  · exact absurd q List.not_mem_nil
  · unfold gnL at q
    rcases List.mem_append.mp q with q | q
    · unfold lnG at q
      obtain ⟨u, hu, q⟩ := List.mem_flatMap.mp q
      have hb := hok i 2 hi (by omega) u hu
      rcases List.mem_cons.mp q with q | q
      · rw [q]; exact hb
      · rw [List.mem_singleton.mp q]
        exact ⟨⟨by omega, by omega⟩, hb.2.1.neg, hb.2.2.neg⟩
    · rcases List.mem_append.mp q with q | q
      · exact hok i 3 hi (by omega) v q
      · exact hok i 4 hi (by omega) v q
section EMAP
variable {sc : Scr} {d : Nat} {m : MM} {D Z h : PH} {Q : Out → PH → Prop} {a : RSt} {G : List V3}
theorem tm_loop {call : Callee} (hc : call = wpC sc (d + 1)) {m0 : MM} {N : Nat → Int} (hN : ∀ i, i < 6 → bdI 30 (N i)) (h1 : ∀ i, i < 6 → m0 1 i = N i) (hG6 : G.length ≤ 600) (hb : ∀ v ∈ G, bdV 30 v) {X : Int32} {R : List V3}
    (hQ : ∀ m' h', MR m' D Z h' → RW m' 4 0 R → m' 14 0 = (R.length : Int) → Fx [4, 14] m0 m' → Q (.inl none) h') :
    ∀ (n i : Nat) (m : MM) (h : PH) (G' : List V3), i + n = G.length → MR m D Z h → RW m 4 0 G' → m 14 0 = (G'.length : Int) → G'.length ≤ i → (∀ j, i ≤ j → j < G.length → vAt m 4 (3 * j) = gt G j) → Fx [4, 14] m0 m → agL G' ((G.drop i).map (mpV N)) = R →
    Runs (d + 1) call sc m_X4_takeMapped Q 17 [(0, .ref 60), (1, .int X), (2, .int (nI G.length)), (3, .int (nI i))] [] h 0 0 := by
  intro n
  induction n with
  | zero =>
    intro i m h G' hi hm r1 n1 hl hv hf hp
    rw [List.drop_eq_nil_of_le (by omega)] at hp
    have hp : G' = R := hp
    subst hp
    refine go hc 3 (fun K hK => ?_)
    conv => whnf
    refine ⟨fun c_ => ?_, fun c_ => absurd (nI_le (by omega) (by omega)) c_⟩
    conv => whnf
    refine hK _ _ _ _ _ _ (go hc 1 (fun K hK => ?_))
    conv => whnf
    exact hQ m h hm r1 n1 hf
  | succ n ih =>
    intro i m h G' hi hm r1 n1 hl hv hf hp
    have hil : i < G.length := by omega
    have hvi := hv i (Nat.le_refl _) hil
    have hbv := hb _ (gt_mem hil)
    rw [drop_gt hil, List.map_cons] at hp
    have hp : agL (agF G' (mpV N (gt G i))) ((G.drop (i + 1)).map (mpV N)) = R := hp
    have bm := bd_mp hN hbv
    generalize gt G i = v at *
    have e0 : m 4 (3 * i) = v.1 := congrArg Prod.fst hvi
    have e1 : m 4 (3 * i + 1) = v.2.1 := congrArg (fun v : V3 => v.2.1) hvi
    have e2 : m 4 (3 * i + 2) = v.2.2 := congrArg (fun v : V3 => v.2.2) hvi
    have en : ∀ j, j < 6 → (mI m 1 j).toInt64 = Int64.ofInt (N j) := fun j hj => by
      unfold mI
      rw [hf 1 (by decide), h1 j hj]
      exact i32_l (hN j hj)
    have hal := agF_len G' (mpV N v)
    refine go hc 3 (fun K hK => ?_)
    conv => whnf
    refine ⟨fun c_ => absurd c_ (nI_ge hil (by omega)), fun c_ => ?_⟩
    conv => whnf
    refine hK _ _ _ _ _ _ (go hc 76 (fun K hK => ?_))
    conv => whnf
    refine ⟨_, _, hm.M, rfl, ?_⟩
    conv => whnf
    refine ⟨_, _, hm.L4, ixv (k := (3) * (i)) (im ((rfl : (3 : Int32) = nI 3)) ((rfl : nI (i) = nI (i)))) (by omega) (Nat.le_of_ble_eq_true rfl), ?_⟩
    rw [ixc (k := (3) * (i)) (im ((rfl : (3 : Int32) = nI 3)) ((rfl : nI (i) = nI (i)))) (by omega)]
    conv => whnf
    refine ⟨_, _, hm.M, rfl, ?_⟩
    conv => whnf
    refine ⟨_, _, hm.L4, ixv (k := ((3) * (i)) + (1)) (ia (im ((rfl : (3 : Int32) = nI 3)) ((rfl : nI (i) = nI (i)))) ((rfl : (1 : Int32) = nI 1))) (by omega) (Nat.le_of_ble_eq_true rfl), ?_⟩
    rw [ixc (k := ((3) * (i)) + (1)) (ia (im ((rfl : (3 : Int32) = nI 3)) ((rfl : nI (i) = nI (i)))) ((rfl : (1 : Int32) = nI 1))) (by omega)]
    conv => whnf
    refine ⟨_, _, hm.M, rfl, ?_⟩
    conv => whnf
    refine ⟨_, _, hm.L4, ixv (k := ((3) * (i)) + (2)) (ia (im ((rfl : (3 : Int32) = nI 3)) ((rfl : nI (i) = nI (i)))) ((rfl : (2 : Int32) = nI 2))) (by omega) (Nat.le_of_ble_eq_true rfl), ?_⟩
    rw [ixc (k := ((3) * (i)) + (2)) (ia (im ((rfl : (3 : Int32) = nI 3)) ((rfl : nI (i) = nI (i)))) ((rfl : (2 : Int32) = nI 2))) (by omega)]
    conv => whnf
    refine ⟨_, _, hm.M, rfl, ?_⟩
    conv => whnf
    refine Or.inr ⟨_, _, hm.I1, ixv (k := 0) ((rfl : (0 : Int32) = nI 0)) (by omega) (Nat.le_of_ble_eq_true rfl), ?_⟩
    rw [ixc (k := 0) ((rfl : (0 : Int32) = nI 0)) (by omega)]
    conv => whnf
    refine ⟨_, _, hm.M, rfl, ?_⟩
    conv => whnf
    refine Or.inr ⟨_, _, hm.I1, ixv (k := 1) ((rfl : (1 : Int32) = nI 1)) (by omega) (Nat.le_of_ble_eq_true rfl), ?_⟩
    rw [ixc (k := 1) ((rfl : (1 : Int32) = nI 1)) (by omega)]
    conv => whnf
    refine ⟨_, _, hm.M, rfl, ?_⟩
    conv => whnf
    refine Or.inr ⟨_, _, hm.I1, ixv (k := 4) ((rfl : (4 : Int32) = nI 4)) (by omega) (Nat.le_of_ble_eq_true rfl), ?_⟩
    rw [ixc (k := 4) ((rfl : (4 : Int32) = nI 4)) (by omega)]
    conv => whnf
    refine ⟨_, _, hm.M, rfl, ?_⟩
    conv => whnf
    refine Or.inr ⟨_, _, hm.I1, ixv (k := 2) ((rfl : (2 : Int32) = nI 2)) (by omega) (Nat.le_of_ble_eq_true rfl), ?_⟩
    rw [ixc (k := 2) ((rfl : (2 : Int32) = nI 2)) (by omega)]
    conv => whnf
    refine ⟨_, _, hm.M, rfl, ?_⟩
    conv => whnf
    refine Or.inr ⟨_, _, hm.I1, ixv (k := 3) ((rfl : (3 : Int32) = nI 3)) (by omega) (Nat.le_of_ble_eq_true rfl), ?_⟩
    rw [ixc (k := 3) ((rfl : (3 : Int32) = nI 3)) (by omega)]
    conv => whnf
    refine ⟨_, _, hm.M, rfl, ?_⟩
    conv => whnf
    refine Or.inr ⟨_, _, hm.I1, ixv (k := 5) ((rfl : (5 : Int32) = nI 5)) (by omega) (Nat.le_of_ble_eq_true rfl), ?_⟩
    rw [ixc (k := 5) ((rfl : (5 : Int32) = nI 5)) (by omega)]
    conv => whnf
    refine ⟨_, hm.M, Nat.le_of_ble_eq_true rfl, ?_⟩
    conv => whnf
    refine callee hc (e_addGx hm (mpV N v) (by unfold mL; rw [e0]; rfl) (by unfold mL; rw [e0, e1, e2, en 0 (by omega), en 1 (by omega), en 4 (by omega)]; exact oI_ta _ _ _ _ _ _) (by unfold mL; rw [e0, e1, e2, en 2 (by omega), en 3 (by omega), en 5 (by omega)]; exact oI_ta _ _ _ _ _ _) (bm.inV (by decide)) r1 n1 (by omega) ?_)
    intro m1 h1' hm r2 n2 f2 o2
    conv => whnf
    have hv' : ∀ j, i + 1 ≤ j → j < G.length → vAt m1 4 (3 * j) = gt G j := fun j hj hjl => by
      rw [← hv j (by omega) hjl]
      unfold vAt
      rw [o2 _ (by omega), o2 _ (by omega), o2 _ (by omega)]
    try simp only [nI_1]
    refine hK _ _ _ _ _ _ (Runs.less hc [0, 1, 2, 3] rfl rfl rfl rfl (ih (i + 1) m1 h1' _ (by omega) hm r2 n2 (by omega) hv' (hf.trans f2) hp))
theorem e_takeMapped (hm : MR m D Z h) (hr : RZ m a) (hok : okS2 a) {i : Nat} {X : Int32} (hX : X = nI i) (hi : i < 4) (hG : RW m 4 0 []) (hgn : m 14 0 = 0)
    (hQ : ∀ m' h', MR m' D Z h' → RW m' 4 0 (mpL a i) → m' 14 0 = ((mpL a i).length : Int) → Fx [4, 14] m m' → Q (.inl none) h') : wpC sc (d + 3) 131 [.ref 60, .int X] h Q := by
  have len1 := gnL_len16 hr.1 (C := []) hi
  rw [List.length_nil] at len1
  unfold mpL at hQ
  have hbd := gnL_bd hok.1 hi
  refine enter rfl rfl (fun call hc => go hc 11 (fun K hK => ?_))
  conv => whnf
  refine ⟨_, hm.M, Nat.le_of_ble_eq_true rfl, ?_⟩
  conv => whnf
  refine callee hc (e_takeG (G := []) hm hX hi hr.1 hok.1 hG hgn (by simp) ?_)
  intro m1 h1 hm r1 n1 f1
  conv => whnf
  refine ⟨_, _, hm.M, rfl, ?_⟩
  conv => whnf
  refine ⟨_, hm.M, Nat.le_of_ble_eq_true rfl, ?_⟩
  replace hm := hm.gn (v := 0) rfl
  conv => whnf
  generalize agL [] (gnL a.1 i) = G at *
  have r2 : RW (mu m1 14 0 0) 4 0 G := r1
  have f2 : Fx [4, 14] m (mu m1 14 0 0) := f1.mu (by decide)
  have n2 : mu m1 14 0 0 14 0 = 0 := mu_at _ _ _ _
  rw [mF_of n1]
  try simp only [nI_1]
  refine hK _ _ _ _ _ _ (Runs.less hc [0, 1, 2, 3] rfl rfl rfl rfl (tm_loop (Q := qth _ Q) hc (m0 := m) (N := a.2.1) hok.2.1 hr.2.1 (by omega) hbd (R := agL [] (G.map (mpV a.2.1))) hQ G.length 0 (mu m1 14 0 0) _ [] (by omega) hm (fun i hi => absurd hi (Nat.not_lt_zero _)) n2 (by simp) (fun j _ hj => r2.v0 hj) f2 rfl))
theorem tbk_in {call : Callee} (hc : call = wpC sc (d + 1)) {m0 : MM} {N : Nat → Int} (hN : ∀ i, i < 6 → bdI 30 (N i)) (h1 : ∀ i, i < 6 → m0 1 i = N i) {s k : Nat} (hs : s < 4) (hk : k < 2) {l : List V3} (hT : TB m0 s k l) (hb : ∀ v ∈ l, bdV 30 v) {R : List V3} {X : Int32} (hX : X = nI k)
    (hQ : ∀ m' h', MR m' D Z h' → RW m' 5 0 R → m' 15 0 = (R.length : Int) → Fx [5, 15] m0 m' → Runs (d + 1) call sc m_X4_takeMappedBack Q 143 [(0, .ref 60), (1, .int (nI s)), (2, .int X)] [] h' 0 0) :
    ∀ (n i : Nat) (m : MM) (h : PH) (C : List V3), i + n = l.length → MR m D Z h → RW m 5 0 C → m 15 0 = (C.length : Int) → Fx [5, 15] m0 m → C.length + 2 * n ≤ 600 → acL (decide (k = 0)) C ((l.drop i).map (bmV N)) = R →
    Runs (d + 1) call sc m_X4_takeMappedBack Q 9 [(0, .ref 60), (1, .int (nI s)), (2, .int X), (3, .int (nI i))] [] h 0 0 := by
  have hl16 := hT.2.2
  intro n
  induction n with
  | zero =>
    intro i m h C hi hm r1 n1 f1 hl hp
    rw [List.drop_eq_nil_of_le (by omega)] at hp
    have hp : C = R := hp
    subst hp
    refine go hc 6 (fun K hK => ?_)
    conv => whnf
    refine ⟨_, hm.M, Nat.le_of_ble_eq_true rfl, ?_⟩
    conv => whnf
    refine callee hc (e_count hm (k := k) rfl hX hs (by omega) (hT.eq (f1 2 (by decide)) (f1 3 (by decide))) ?_)
    conv => whnf
    refine ⟨fun c_ => ?_, fun c_ => absurd (nI_le (by omega) (by omega)) c_⟩
    conv => whnf
    try simp only [nI_1]
    refine hK _ _ _ _ _ _ (Runs.less hc [0, 1, 2] rfl rfl rfl rfl (hQ m h hm r1 n1 f1))
  | succ n ih =>
    intro i m h C hi hm r1 n1 f1 hl hp
    have hil : i < l.length := by omega
    have hT' := hT.eq (f1 2 (by decide)) (f1 3 (by decide))
    obtain ⟨e1, e2, e3⟩ := hT'.2.1.at hil
    have hbv := hb _ (gt_mem hil)
    have bm := bd_bm hN hbv
    rw [drop_gt hil, List.map_cons] at hp
    have hal := acF_len C (bmV N (gt l i)) (decide (k = 0))
    have hr : 48 * (5 * s + k) + 3 * i + 2 < 960 := by omega
    have hp' : acL (decide (k = 0)) (acF C (bmV N (gt l i)) (decide (k = 0))) ((l.drop (i + 1)).map (bmV N)) = R := hp
    have en : ∀ j, j < 6 → (mI m 1 j).toInt64 = Int64.ofInt (N j) := fun j hj => by
      unfold mI
      rw [f1 1 (by decide), h1 j hj]
      exact i32_l (hN j hj)
    have h134 : ∀ (v4 : Int32) (v5 v7 : Int64) (b : Bool), b = decide (k = 0) → Runs (d + 1) call sc m_X4_takeMappedBack Q 134 [(0, .ref 60), (1, .int (nI s)), (2, .int X), (3, .int (nI i)), (4, .int v4), (5, .long v5), (7, .long v7)] [.int (bI01 b), .long (Int64.ofInt (bmV N (gt l i)).2.2), .long (Int64.ofInt (bmV N (gt l i)).2.1), .long (Int64.ofInt (bmV N (gt l i)).1), .ref 60] h 0 0 := by
      intro v4 v5 v7 b hb'
      subst hb'
      refine go hc 3 (fun K hK => ?_)
      conv => whnf
      refine ⟨_, hm.M, Nat.le_of_ble_eq_true rfl, ?_⟩
      conv => whnf
      refine callee hc (e_addC hm (bmV N (gt l i)) (decide (k = 0)) rfl rfl rfl (bm.inV (by decide)) r1 n1 (by omega) ?_)
      intro m1 h1 hm r2 n2 f2
      conv => whnf
      try simp only [nI_1]
      refine hK _ _ _ _ _ _ (Runs.less hc [0, 1, 2, 3] rfl rfl rfl rfl (ih (i + 1) m1 h1 _ (by omega) hm r2 n2 (f1.trans f2) (by omega) hp'))
    refine go hc 6 (fun K hK => ?_)
    conv => whnf
    refine ⟨_, hm.M, Nat.le_of_ble_eq_true rfl, ?_⟩
    conv => whnf
    refine callee hc (e_count hm (k := k) rfl hX hs (by omega) hT' ?_)
    conv => whnf
    refine ⟨fun c_ => absurd c_ (nI_ge hil (by omega)), fun c_ => ?_⟩
    conv => whnf
    refine hK _ _ _ _ _ _ (go hc 76 (fun K hK => ?_))
    conv => whnf
    refine ⟨_, hm.M, Nat.le_of_ble_eq_true rfl, ?_⟩
    conv => whnf
    refine callee hc (e_at (s := s) (k := k) (i := i) rfl hX rfl ?_)
    conv => whnf
    refine ⟨_, _, hm.M, rfl, ?_⟩
    conv => whnf
    refine Or.inr ⟨_, _, hm.I3, ixv (k := (48 * (5 * s + k) + 3 * i) + (1)) (ia ((rfl : nI (48 * (5 * s + k) + 3 * i) = nI (48 * (5 * s + k) + 3 * i))) ((rfl : (1 : Int32) = nI 1))) (by omega) (Nat.le_of_ble_eq_true rfl), ?_⟩
    rw [ixc (k := (48 * (5 * s + k) + 3 * i) + (1)) (ia ((rfl : nI (48 * (5 * s + k) + 3 * i) = nI (48 * (5 * s + k) + 3 * i))) ((rfl : (1 : Int32) = nI 1))) (by omega)]
    conv => whnf
    refine ⟨_, _, hm.M, rfl, ?_⟩
    conv => whnf
    refine Or.inr ⟨_, _, hm.I3, ixv (k := (48 * (5 * s + k) + 3 * i) + (2)) (ia ((rfl : nI (48 * (5 * s + k) + 3 * i) = nI (48 * (5 * s + k) + 3 * i))) ((rfl : (2 : Int32) = nI 2))) (by omega) (Nat.le_of_ble_eq_true rfl), ?_⟩
    rw [ixc (k := (48 * (5 * s + k) + 3 * i) + (2)) (ia ((rfl : nI (48 * (5 * s + k) + 3 * i) = nI (48 * (5 * s + k) + 3 * i))) ((rfl : (2 : Int32) = nI 2))) (by omega)]
    conv => whnf
    refine ⟨_, _, hm.M, rfl, ?_⟩
    conv => whnf
    refine Or.inr ⟨_, _, hm.I3, ixv (k := 48 * (5 * s + k) + 3 * i) ((rfl : nI (48 * (5 * s + k) + 3 * i) = nI (48 * (5 * s + k) + 3 * i))) (by omega) (Nat.le_of_ble_eq_true rfl), ?_⟩
    rw [ixc (k := 48 * (5 * s + k) + 3 * i) ((rfl : nI (48 * (5 * s + k) + 3 * i) = nI (48 * (5 * s + k) + 3 * i))) (by omega)]
    conv => whnf
    refine ⟨_, _, hm.M, rfl, ?_⟩
    conv => whnf
    refine Or.inr ⟨_, _, hm.I1, ixv (k := 4) ((rfl : (4 : Int32) = nI 4)) (by omega) (Nat.le_of_ble_eq_true rfl), ?_⟩
    rw [ixc (k := 4) ((rfl : (4 : Int32) = nI 4)) (by omega)]
    conv => whnf
    refine ⟨_, _, hm.M, rfl, ?_⟩
    conv => whnf
    refine Or.inr ⟨_, _, hm.I1, ixv (k := 5) ((rfl : (5 : Int32) = nI 5)) (by omega) (Nat.le_of_ble_eq_true rfl), ?_⟩
    rw [ixc (k := 5) ((rfl : (5 : Int32) = nI 5)) (by omega)]
    conv => whnf
    refine ⟨_, _, hm.M, rfl, ?_⟩
    conv => whnf
    refine Or.inr ⟨_, _, hm.I1, ixv (k := 0) ((rfl : (0 : Int32) = nI 0)) (by omega) (Nat.le_of_ble_eq_true rfl), ?_⟩
    rw [ixc (k := 0) ((rfl : (0 : Int32) = nI 0)) (by omega)]
    conv => whnf
    refine ⟨_, _, hm.M, rfl, ?_⟩
    conv => whnf
    refine Or.inr ⟨_, _, hm.I1, ixv (k := 2) ((rfl : (2 : Int32) = nI 2)) (by omega) (Nat.le_of_ble_eq_true rfl), ?_⟩
    rw [ixc (k := 2) ((rfl : (2 : Int32) = nI 2)) (by omega)]
    conv => whnf
    refine ⟨_, _, hm.M, rfl, ?_⟩
    conv => whnf
    refine Or.inr ⟨_, _, hm.I1, ixv (k := 1) ((rfl : (1 : Int32) = nI 1)) (by omega) (Nat.le_of_ble_eq_true rfl), ?_⟩
    rw [ixc (k := 1) ((rfl : (1 : Int32) = nI 1)) (by omega)]
    conv => whnf
    refine ⟨_, _, hm.M, rfl, ?_⟩
    conv => whnf
    refine Or.inr ⟨_, _, hm.I1, ixv (k := 3) ((rfl : (3 : Int32) = nI 3)) (by omega) (Nat.le_of_ble_eq_true rfl), ?_⟩
    rw [ixc (k := 3) ((rfl : (3 : Int32) = nI 3)) (by omega)]
    conv => whnf
    rw [show (mI m 3 (48 * (5 * s + k) + 3 * i)).toInt64 = Int64.ofInt (gt l i).1 from by unfold mI; rw [e1]; exact i32_l hbv.1, show (mI m 3 (48 * (5 * s + k) + 3 * i + 1)).toInt64 = Int64.ofInt (gt l i).2.1 from by unfold mI; rw [e2]; exact i32_l hbv.2.1, show (mI m 3 (48 * (5 * s + k) + 3 * i + 2)).toInt64 = Int64.ofInt (gt l i).2.2 from by unfold mI; rw [e3]; exact i32_l hbv.2.2, en 4 (by omega), en 5 (by omega), en 0 (by omega), en 2 (by omega), en 1 (by omega), en 3 (by omega), oI_tb, oI_pd, oI_pd]
    by_cases c : k = 0
    · refine ⟨fun c_ => ?_, fun c_ => absurd (by rw [hX, c]; rfl) c_⟩
      conv => whnf
      refine hK _ _ _ _ _ _ (go hc 2 (fun K hK => ?_))
      conv => whnf
      try simp only [nI_1]
      refine hK _ _ _ _ _ _ (Runs.less hc [0, 1, 2, 3, 4, 5, 7] rfl rfl rfl rfl (h134 _ _ _ true (decide_eq_true c).symm))
    · refine ⟨fun c_ => absurd c_ (fun q => c (by rw [hX] at q; exact (nI_eq (by omega) (by decide)).mp q)), fun c_ => ?_⟩
      conv => whnf
      refine hK _ _ _ _ _ _ (go hc 1 (fun K hK => ?_))
      conv => whnf
      try simp only [nI_1]
      refine hK _ _ _ _ _ _ (Runs.less hc [0, 1, 2, 3, 4, 5, 7] rfl rfl rfl rfl (h134 _ _ _ false (decide_eq_false c).symm))
theorem e_takeMappedBack (hm : MR m D Z h) (hr : RZ m a) (hok : okS2 a) {i : Nat} {X : Int32} (hX : X = nI i) (hi : i < 4) (hC : RW m 5 0 []) (hkn : m 15 0 = 0)
    (hQ : ∀ m' h', MR m' D Z h' → RW m' 5 0 (mbL a i) → m' 15 0 = ((mbL a i).length : Int) → Fx [5, 15] m m' → Q (.inl none) h') : wpC sc (d + 2) 132 [.ref 60, .int X] h Q := by
  subst hX
  have t0 := hr.1 i 0 hi (by omega)
  have t1 := hr.1 i 1 hi (by omega)
  have q0 := t0.2.2
  have q1 := t1.2.2
  unfold mbL at hQ
  have k0 := acL_len true ((a.1 i 0).map (bmV a.2.1)) []
  rw [List.length_map, List.length_nil] at k0
  refine enter rfl rfl (fun call hc => go hc 5 (fun K hK => ?_))
  conv => whnf
  refine ⟨fun c_ => absurd c_ (by decide), fun c_ => ?_⟩
  conv => whnf
  refine hK _ _ _ _ _ _ (go hc 2 (fun K hK => ?_))
  conv => whnf
  try simp only [nI_1]
  refine hK _ _ _ _ _ _ (Runs.less hc [0, 1, 2, 3] rfl rfl rfl rfl (tbk_in (Q := qth _ Q) hc hok.2.1 hr.2.1 hi (k := 0) (by omega) t0 (hok.1 i 0 hi (by omega)) (R := acL true [] ((a.1 i 0).map (bmV a.2.1))) rfl (fun m1 h1 hm1 r1 n1 f1 => ?_) (a.1 i 0).length 0 m h [] (by omega) hm hC hkn Fx.refl (by simp; omega) rfl))
  refine go hc 5 (fun K hK => ?_)
  conv => whnf
  refine ⟨fun c_ => absurd c_ (by decide), fun c_ => ?_⟩
  conv => whnf
  refine hK _ _ _ _ _ _ (go hc 2 (fun K hK => ?_))
  conv => whnf
  try simp only [nI_1]
  refine hK _ _ _ _ _ _ (Runs.less hc [0, 1, 2, 3] rfl rfl rfl rfl (tbk_in (Q := qth _ Q) hc hok.2.1 hr.2.1 hi (k := 1) (by omega) t1 (hok.1 i 1 hi (by omega)) (R := acL false (acL true [] ((a.1 i 0).map (bmV a.2.1))) ((a.1 i 1).map (bmV a.2.1))) rfl (fun m2 h2 hm2 r2 n2 f2 => ?_) (a.1 i 1).length 0 m1 h1 _ (by omega) hm1 r1 n1 f1 (by omega) rfl))
  refine go hc 5 (fun K hK => ?_)
  conv => whnf
  refine ⟨fun c_ => ?_, fun c_ => absurd (by decide) c_⟩
  conv => whnf
  refine hK _ _ _ _ _ _ (go hc 1 (fun K hK => ?_))
  conv => whnf
  exact hQ m2 h2 hm2 r2 n2 f2
theorem e_map (hm : MR m D Z h) (hr : RZ m a) (hok : okS2 a) {i t : Int32} {b : Bool} (hB : ∀ i, i < 4 → a.1 i 4 ≠ [] → a.2.2.1 = 6 → okC2 (mbL a i)) (hF : ∀ i, i < 4 → a.1 i 4 ≠ [] → a.2.2.1 = 6 → okG2 (mpL a i))
    (hQ : ∀ m' h', MR m' D Z h' → RZ m' (rMap a i b t).2.2 → m' 12 0 = ((rMap a i b t).1 : Int) → Q (.inl (some (.int (rMap a i b t).2.1))) h') : wpC sc (d + 8) 133 [.ref 60, .int i, .int (bI01 b), .int t] h Q := by
  unfold rMap at hQ
  have hs6 := hok.2.2
  have n19 : ∀ {call : Callee}, call = wpC sc (d + 7) → ∀ m1 h1, MR m1 D Z h1 → RZ m1 a → (slotB i = false ∨ slotB t = false) → Runs (d + 7) call sc m_X4_map (qth (mTh m_X4_map) Q) 19 [(0, .ref 60), (1, .int i), (2, .int (bI01 b)), (3, .int t)] [] h1 0 0 := by
    intro call hc m1 h1 hm hr q
    rw [if_pos q] at hQ
    refine go hc 4 (fun K hK => ?_)
    conv => whnf
    refine ⟨_, hm.M, Nat.le_of_ble_eq_true rfl, ?_⟩
    conv => whnf
    refine callee hc (e_fail hm (n := 1) rfl ?_)
    intro m2 h2 hm c2 f2
    conv => whnf
    exact hQ m2 h2 hm (hr.fx f2 (by decide) (by decide) (by decide) (by decide) (by decide) (by decide) (by decide)) c2
  refine enter rfl rfl (fun call hc => go hc 6 (fun K hK => ?_))
  conv => whnf
  refine ⟨_, hm.M, Nat.le_of_ble_eq_true rfl, ?_⟩
  replace hm := hm.code (v := 0) rfl
  replace hr := hr.code 0
  have z0 : mu m 12 0 0 12 0 = 0 := mu_at _ _ _ _
  generalize mu m 12 0 0 = m1 at *
  conv => whnf
  refine ⟨Nat.le_of_ble_eq_true rfl, ?_⟩
  conv => whnf
  refine callee hc (e_isSlot ?_)
  conv => whnf
  cases hi0 : slotB i with
  | false =>
    refine ⟨fun c_ => ?_, fun c_ => absurd (rfl) c_⟩
    conv => whnf
    refine hK _ _ _ _ _ _ (n19 hc m1 _ hm hr (Or.inl hi0))
  | true =>
    refine ⟨fun c_ => absurd c_ (by decide), fun c_ => ?_⟩
    conv => whnf
    refine hK _ _ _ _ _ _ (go hc 3 (fun K hK => ?_))
    conv => whnf
    refine ⟨Nat.le_of_ble_eq_true rfl, ?_⟩
    conv => whnf
    refine callee hc (e_isSlot ?_)
    conv => whnf
    cases ht0 : slotB t with
    | false =>
      refine ⟨fun c_ => ?_, fun c_ => absurd (rfl) c_⟩
      conv => whnf
      refine hK _ _ _ _ _ _ (n19 hc m1 _ hm hr (Or.inr ht0))
    | true =>
      rw [if_neg (by rw [hi0, ht0]; decide)] at hQ
      obtain ⟨ni, hi, he, hn⟩ := slot_nat hi0
      subst he
      obtain ⟨nt, ht, he, hn''⟩ := slot_nat ht0
      subst he
      rw [hn, hn''] at hQ
      have F1 := hr.F1
      refine ⟨fun c_ => absurd c_ (by decide), fun c_ => ?_⟩
      conv => whnf
      refine hK _ _ _ _ _ _ ?_
      refine go hc 4 (fun K hK => ?_)
      conv => whnf
      refine ⟨_, _, hm.M, rfl, ?_⟩
      rw [F1]
      conv => whnf
      by_cases c6 : a.2.2.1 = 6
      · rw [if_neg (fun q => q c6)] at hQ
        have n94 : ∀ (m' : MM) (h' : PH) (T' : Tab) (f : Nat), MR m' D Z h' → RZ m' (T', a.2) → f < 3 → m' 12 0 = 0 → (f = 0 → ∀ m'' h'', MR m'' D Z h'' → RZ m'' (T', a.2.1, 0, a.2.2.2) → m'' 12 0 = 0 → Q (.inl (some (.int (dimI (T' nt 4) (T' nt 0))))) h'') → (f ≠ 0 → ∀ m'' h'', MR m'' D Z h'' → RZ m'' (T', a.2) → m'' 12 0 = ((if f = 1 then 3 else 3 + 1 : Nat) : Int) → Q (.inl (some (.int 0))) h'') →
            Runs (d + 7) call sc m_X4_map (qth (mTh m_X4_map) Q) 94 [(0, .ref 60), (1, .int (nI ni)), (2, .int (bI01 b)), (3, .int (nI nt)), (4, .int (nI f))] [] h' 0 0 := by
          intro m' h' T' f hm hr' hf3 z' q0 q1
          refine go hc 2 (fun K hK => ?_)
          conv => whnf
          by_cases cf : f = 0
          · subst cf
            refine ⟨fun c_ => ?_, fun c_ => absurd (rfl) c_⟩
            conv => whnf
            refine hK _ _ _ _ _ _ (go hc 9 (fun K hK => ?_))
            conv => whnf
            refine ⟨_, hm.M, Nat.le_of_ble_eq_true rfl, ?_⟩
            replace hm := hm.said (v := 0) rfl
            replace hr' := hr'.said
            conv => whnf
            refine ⟨_, hm.M, Nat.le_of_ble_eq_true rfl, ?_⟩
            conv => whnf
            refine callee hc (e_answer hm (f := 0) (lg := 3) rfl rfl rfl ht (by omega) (by omega) hr'.1 ?_)
            intro m2 h2 r hm f2 a0 _
            obtain ⟨rfl, y2⟩ := a0 rfl
            conv => whnf
            exact q0 rfl m2 h2 hm (hr'.fx f2 (by decide) (by decide) (by decide) (by decide) (by decide) (by decide) (by decide)) (by rw [y2]; exact z')
          · refine ⟨fun c_ => absurd c_ (nI_ne0 (by omega) (by omega)), fun c_ => ?_⟩
            conv => whnf
            refine hK _ _ _ _ _ _ (go hc 6 (fun K hK => ?_))
            conv => whnf
            refine ⟨_, hm.M, Nat.le_of_ble_eq_true rfl, ?_⟩
            conv => whnf
            refine callee hc (e_answer hm (f := f) (lg := 3) rfl rfl rfl ht hf3 (by omega) hr'.1 ?_)
            intro m2 h2 r hm f2 _ a1
            obtain ⟨rfl, y2⟩ := a1 cf
            conv => whnf
            exact q1 cf m2 h2 hm (hr'.fx f2 (by decide) (by decide) (by decide) (by decide) (by decide) (by decide) (by decide)) y2
        have fin : ∀ (M : Nat → List V3) (m' : MM) (h' : PH), MR m' D Z h' → RZ m' (upT a.1 nt M, a.2) → m' 12 0 = 0 → (∀ m' h', MR m' D Z h' → RZ m' (rFin a nt M 3 true).2.2 → m' 12 0 = ((rFin a nt M 3 true).1 : Int) → Q (.inl (some (.int (rFin a nt M 3 true).2.1))) h') → Runs (d + 7) call sc m_X4_map (qth (mTh m_X4_map) Q) 94 [(0, .ref 60), (1, .int (nI ni)), (2, .int (bI01 b)), (3, .int (nI nt)), (4, .int (nI (fltF M)))] [] h' 0 0 := by
          intro M m' h' hm hr' z' hq
          unfold rFin at hq
          refine n94 m' h' _ (fltF M) hm hr' (flt_lt _) z' (fun cf m'' h'' hm'' hr'' z'' => ?_) (fun cf m'' h'' hm'' hr'' z'' => ?_)
          · rw [if_pos cf, if_pos rfl] at hq
            rw [upT_eq cf] at hr'' ⊢
            exact hq m'' h'' hm'' hr'' z''
          · rw [if_neg cf] at hq
            rw [upT_ne cf] at hr''
            exact hq m'' h'' hm'' hr'' z''
        refine ⟨fun c_ => ?_, fun c_ => absurd (by rw [c6]; rfl) c_⟩
        conv => whnf
        refine hK _ _ _ _ _ _ ?_
        refine go hc 8 (fun K hK => ?_)
        conv => whnf
        refine ⟨_, hm.M, Nat.le_of_ble_eq_true rfl, ?_⟩
        conv => whnf
        refine callee hc (e_begin hm ?_)
        intro m3 h3 hm g3 k3 d3 f3
        have hr3 := hr.fx f3 (by decide) (by decide) (by decide) (by decide) (by decide) (by decide) (by decide)
        conv => whnf
        refine ⟨_, hm.M, Nat.le_of_ble_eq_true rfl, ?_⟩
        conv => whnf
        refine callee hc (e_isEmpty hm rfl hi (hr3.1 ni 4 hi (by omega)) ?_)
        conv => whnf
        have z3 : m3 12 0 = 0 := by rw [f3 12 (by decide)]; exact z0
        by_cases ce : a.1 ni 4 = []
        · rw [if_pos ce] at hQ
          rw [decide_eq_true ce]
          refine ⟨fun c_ => absurd c_ (by decide), fun c_ => ?_⟩
          conv => whnf
          refine hK _ _ _ _ _ _ (go hc 4 (fun K hK => ?_))
          conv => whnf
          refine ⟨_, hm.M, Nat.le_of_ble_eq_true rfl, ?_⟩
          conv => whnf
          refine callee hc (e_drop hm rfl ht hr3.1 ?_)
          intro m4 h4 hm T4 f4
          conv => whnf
          refine hK _ _ _ _ _ _ (n94 m4 h4 _ 0 hm (hr3.tab T4 f4 (by decide) (by decide) (by decide) (by decide) (by decide)) (by omega) (by rw [f4 12 (by decide)]; exact z3) (fun _ m'' h'' hm'' hr'' z'' => ?_) (fun q => absurd rfl q))
          have := hQ m'' h'' hm'' hr'' z''
          unfold dimI
          rw [if_pos (show drT a.1 nt nt 4 = [] from if_pos rfl)]
          exact this
        · rw [if_neg ce] at hQ
          rw [decide_eq_false ce]
          refine ⟨fun c_ => ?_, fun c_ => absurd (rfl) c_⟩
          conv => whnf
          refine hK _ _ _ _ _ _ ?_
          refine go hc 2 (fun K hK => ?_)
          conv => whnf
          cases b with
          | true =>
            rw [if_pos rfl] at hQ
            refine ⟨fun c_ => absurd c_ (by decide), fun c_ => ?_⟩
            conv => whnf
            refine hK _ _ _ _ _ _ (go hc 8 (fun K hK => ?_))
            conv => whnf
            refine ⟨_, hm.M, Nat.le_of_ble_eq_true rfl, ?_⟩
            conv => whnf
            refine callee hc (e_takeMappedBack hm hr3 hok rfl hi (fun i hi => absurd hi (Nat.not_lt_zero _)) k3 ?_)
            intro m4 h4 hm r4 n4 f4
            have hr4 := hr3.fx f4 (by decide) (by decide) (by decide) (by decide) (by decide) (by decide) (by decide)
            conv => whnf
            refine ⟨_, hm.M, Nat.le_of_ble_eq_true rfl, ?_⟩
            conv => whnf
            refine callee hc (e_ofC hm rfl ht r4 n4 (fun k hk => by rw [f4 10 (by decide)]; exact d3 k hk) hr4.1 (hB ni hi ce c6) ?_)
            intro m5 h5 hm T5 f5
            conv => whnf
            refine hK _ _ _ _ _ _ (fin _ m5 h5 hm (hr4.tab T5 f5 (by decide) (by decide) (by decide) (by decide) (by decide)) (by rw [f5 12 (by decide), f4 12 (by decide)]; exact z3) hQ)
          | false =>
            rw [if_neg (by decide)] at hQ
            refine ⟨fun c_ => ?_, fun c_ => absurd (rfl) c_⟩
            conv => whnf
            refine hK _ _ _ _ _ _ ?_
            refine go hc 7 (fun K hK => ?_)
            conv => whnf
            refine ⟨_, hm.M, Nat.le_of_ble_eq_true rfl, ?_⟩
            conv => whnf
            refine callee hc (e_takeMapped hm hr3 hok rfl hi (fun i hi => absurd hi (Nat.not_lt_zero _)) g3 ?_)
            intro m4 h4 hm r4 n4 f4
            have hr4 := hr3.fx f4 (by decide) (by decide) (by decide) (by decide) (by decide) (by decide) (by decide)
            conv => whnf
            refine ⟨_, hm.M, Nat.le_of_ble_eq_true rfl, ?_⟩
            conv => whnf
            refine callee hc (e_ofG hm rfl ht r4 n4 (fun k hk => by rw [f4 10 (by decide)]; exact d3 k hk) hr4.1 (hF ni hi ce c6) ?_)
            intro m5 h5 hm T5 f5
            conv => whnf
            refine hK _ _ _ _ _ _ (fin _ m5 h5 hm (hr4.tab T5 f5 (by decide) (by decide) (by decide) (by decide) (by decide)) (by rw [f5 12 (by decide), f4 12 (by decide)]; exact z3) hQ)
      · rw [if_pos c6] at hQ
        refine ⟨fun c_ => absurd c_ ((fun q => c6 ((nI_eq (by omega) (by decide)).mp q))), fun c_ => ?_⟩
        conv => whnf
        refine hK _ _ _ _ _ _ (go hc 4 (fun K hK => ?_))
        conv => whnf
        refine ⟨_, hm.M, Nat.le_of_ble_eq_true rfl, ?_⟩
        conv => whnf
        refine callee hc (e_fail hm (n := 2) rfl ?_)
        intro m2 h2 hm c2 f2
        conv => whnf
        exact hQ m2 h2 hm (hr.fx f2 (by decide) (by decide) (by decide) (by decide) (by decide) (by decide) (by decide)) c2
end EMAP
