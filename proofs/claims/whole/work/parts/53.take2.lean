/-! taking generators and constraints -/
def agL (G vs : List V3) : List V3 := vs.foldl agF G
def acL (b : Bool) (C vs : List V3) : List V3 := vs.foldl (fun C v => acF C v b) C
def lnG (l : List V3) : List V3 := l.flatMap fun v => [v, (0, -v.2.1, -v.2.2)]
def lst (k : Nat) (l : List V3) : List V3 := if k = 2 then lnG l else l
theorem agF_len (G : List V3) (v : V3) : (agF G v).length ≤ G.length + 1 := by
  unfold agF
  split
  · omega
  · rw [List.length_append, List.length_singleton]; omega
theorem acF_len (C : List V3) (v : V3) (b : Bool) : (acF C v b).length ≤ C.length + 2 := by
  unfold acF
  by_cases c : v = (0, 0, 0)
  · rw [if_pos c]; omega
  · rw [if_neg c]
    cases b <;> simp
theorem agL_app (G a b : List V3) : agL G (a ++ b) = agL (agL G a) b := List.foldl_append ..
theorem lnG_len (l : List V3) : (lnG l).length = 2 * l.length := by
  induction l with
  | nil => rfl
  | cons v l ih =>
    have : (lnG (v :: l)).length = (lnG l).length + 2 := by
      show ([v, (0, -v.2.1, -v.2.2)] ++ lnG l).length = _
      rw [List.length_append, Nat.add_comm]; rfl
    rw [this, ih, List.length_cons]; omega
theorem inV30 {v : V3} (h : bdV 30 v) : inV v := h.inV (by decide)
theorem inV_l {v : V3} (h : bdV 30 v) : inV (0, -v.2.1, -v.2.2) := ⟨inL_0, (h.2.1.neg).inL (by decide), (h.2.2.neg).inL (by decide)⟩
section ETAKE2
variable {sc : Scr} {d : Nat} {m : MM} {D Z h : PH} {Q : Out → PH → Prop} {G Kc l : List V3} {T : Tab}
theorem tk_in {call : Callee} (hc : call = wpC sc (d + 1)) {m0 : MM} {s k : Nat} (hs : s < 4) (hk : k < 5) (h2 : 2 ≤ k) (hT : TB m0 s k l) (hb : ∀ v ∈ l, bdV 30 v) {R : List V3} {X : Int32} (hX : X = nI k)
    (hQ : ∀ m' h', MR m' D Z h' → RW m' 4 0 R → m' 14 0 = (R.length : Int) → Fx [4, 14] m0 m' → Runs (d + 1) call sc m_X4_takeGenerators Q 98 [(0, .ref 60), (1, .int (nI s)), (2, .int X)] [] h' 0 0) :
    ∀ (n i : Nat) (m : MM) (h : PH) (G : List V3), i + n = l.length → MR m D Z h → RW m 4 0 G → m 14 0 = (G.length : Int) → Fx [4, 14] m0 m → G.length + 2 * n ≤ 600 → agL G (lst k (l.drop i)) = R →
    Runs (d + 1) call sc m_X4_takeGenerators Q 9 [(0, .ref 60), (1, .int (nI s)), (2, .int X), (3, .int (nI i))] [] h 0 0 := by
  have hl16 := hT.2.2
  intro n
  induction n with
  | zero =>
    intro i m h G hi hm r1 n1 f1 hl hp
    rw [List.drop_eq_nil_of_le (by omega), show lst k [] = [] by unfold lst; split <;> rfl] at hp
    have hp : G = R := hp
    subst hp
    refine go hc 6 (fun K hK => ?_)
    conv => whnf
    refine ⟨_, hm.M, Nat.le_of_ble_eq_true rfl, ?_⟩
    conv => whnf
    refine callee hc (e_count hm (k := k) rfl hX hs hk (hT.eq (f1 2 (by decide)) (f1 3 (by decide))) ?_)
    conv => whnf
    refine ⟨fun c_ => ?_, fun c_ => absurd (nI_le (by omega) (by omega)) c_⟩
    conv => whnf
    try simp only [nI_1]
    refine hK _ _ _ _ _ _ (Runs.less hc [0, 1, 2] rfl rfl rfl rfl (hQ m h hm r1 n1 f1))
  | succ n ih =>
    intro i m h G hi hm r1 n1 f1 hl hp
    have hil : i < l.length := by omega
    have hT' := hT.eq (f1 2 (by decide)) (f1 3 (by decide))
    obtain ⟨e1, e2, e3⟩ := hT'.2.1.at hil
    have hbv := hb _ (gt_mem hil)
    have hal := agF_len G (gt l i)
    have hr : 48 * (5 * s + k) + 3 * i + 2 < 960 := by omega
    rw [drop_gt hil] at hp
    refine go hc 6 (fun K hK => ?_)
    conv => whnf
    refine ⟨_, hm.M, Nat.le_of_ble_eq_true rfl, ?_⟩
    conv => whnf
    refine callee hc (e_count hm (k := k) rfl hX hs hk hT' ?_)
    conv => whnf
    refine ⟨fun c_ => absurd c_ (nI_ge hil (by omega)), fun c_ => ?_⟩
    conv => whnf
    refine hK _ _ _ _ _ _ (go hc 30 (fun K hK => ?_))
    conv => whnf
    refine ⟨_, hm.M, Nat.le_of_ble_eq_true rfl, ?_⟩
    conv => whnf
    refine callee hc (e_at (s := s) (k := k) (i := i) rfl hX rfl ?_)
    conv => whnf
    refine ⟨_, _, hm.M, rfl, ?_⟩
    conv => whnf
    refine Or.inr ⟨_, _, hm.I3, ixv (k := 48 * (5 * s + k) + 3 * i) ((rfl : nI (48 * (5 * s + k) + 3 * i) = nI (48 * (5 * s + k) + 3 * i))) (by omega) (Nat.le_of_ble_eq_true rfl), ?_⟩
    rw [ixc (k := 48 * (5 * s + k) + 3 * i) ((rfl : nI (48 * (5 * s + k) + 3 * i) = nI (48 * (5 * s + k) + 3 * i))) (by omega)]
    conv => whnf
    refine ⟨_, _, hm.M, rfl, ?_⟩
    conv => whnf
    refine Or.inr ⟨_, _, hm.I3, ixv (k := (48 * (5 * s + k) + 3 * i) + (1)) (ia ((rfl : nI (48 * (5 * s + k) + 3 * i) = nI (48 * (5 * s + k) + 3 * i))) ((rfl : (1 : Int32) = nI 1))) (by omega) (Nat.le_of_ble_eq_true rfl), ?_⟩
    rw [ixc (k := (48 * (5 * s + k) + 3 * i) + (1)) (ia ((rfl : nI (48 * (5 * s + k) + 3 * i) = nI (48 * (5 * s + k) + 3 * i))) ((rfl : (1 : Int32) = nI 1))) (by omega)]
    conv => whnf
    refine ⟨_, _, hm.M, rfl, ?_⟩
    conv => whnf
    refine Or.inr ⟨_, _, hm.I3, ixv (k := (48 * (5 * s + k) + 3 * i) + (2)) (ia ((rfl : nI (48 * (5 * s + k) + 3 * i) = nI (48 * (5 * s + k) + 3 * i))) ((rfl : (2 : Int32) = nI 2))) (by omega) (Nat.le_of_ble_eq_true rfl), ?_⟩
    rw [ixc (k := (48 * (5 * s + k) + 3 * i) + (2)) (ia ((rfl : nI (48 * (5 * s + k) + 3 * i) = nI (48 * (5 * s + k) + 3 * i))) ((rfl : (2 : Int32) = nI 2))) (by omega)]
    conv => whnf
    refine ⟨_, hm.M, Nat.le_of_ble_eq_true rfl, ?_⟩
    conv => whnf
    refine callee hc (e_addG hm (gt l i) (by unfold mI; rw [e1]; exact i32_l hbv.1) (by unfold mI; rw [e2]; exact i32_l hbv.2.1) (by unfold mI; rw [e3]; exact i32_l hbv.2.2) (inV30 hbv) r1 n1 (by omega) ?_)
    intro m1 h1 hm r2 n2 f2
    conv => whnf
    have f2' := f1.trans f2
    by_cases c : k = 2
    · have hal2 := agF_len (agF G (gt l i)) (0, -(gt l i).2.1, -(gt l i).2.2)
      have e2' : m1 3 (48 * (5 * s + k) + 3 * i + 1) = (gt l i).2.1 := by rw [f2 3 (by decide)]; exact e2
      have e3' : m1 3 (48 * (5 * s + k) + 3 * i + 2) = (gt l i).2.2 := by rw [f2 3 (by decide)]; exact e3
      have hp2 : agL (agF (agF G (gt l i)) (0, -(gt l i).2.1, -(gt l i).2.2)) (lst k (l.drop (i + 1))) = R := by
        unfold lst at hp ⊢
        rw [if_pos c] at hp ⊢
        exact hp
      refine ⟨fun c_ => ?_, fun c_ => absurd ((by rw [hX, c]; rfl)) c_⟩
      conv => whnf
      refine hK _ _ _ _ _ _ (go hc 19 (fun K hK => ?_))
      conv => whnf
      refine ⟨_, _, hm.M, rfl, ?_⟩
      conv => whnf
      refine Or.inr ⟨_, _, hm.I3, ixv (k := (48 * (5 * s + k) + 3 * i) + (1)) (ia ((rfl : nI (48 * (5 * s + k) + 3 * i) = nI (48 * (5 * s + k) + 3 * i))) ((rfl : (1 : Int32) = nI 1))) (by omega) (Nat.le_of_ble_eq_true rfl), ?_⟩
      rw [ixc (k := (48 * (5 * s + k) + 3 * i) + (1)) (ia ((rfl : nI (48 * (5 * s + k) + 3 * i) = nI (48 * (5 * s + k) + 3 * i))) ((rfl : (1 : Int32) = nI 1))) (by omega)]
      conv => whnf
      refine ⟨_, _, hm.M, rfl, ?_⟩
      conv => whnf
      refine Or.inr ⟨_, _, hm.I3, ixv (k := (48 * (5 * s + k) + 3 * i) + (2)) (ia ((rfl : nI (48 * (5 * s + k) + 3 * i) = nI (48 * (5 * s + k) + 3 * i))) ((rfl : (2 : Int32) = nI 2))) (by omega) (Nat.le_of_ble_eq_true rfl), ?_⟩
      rw [ixc (k := (48 * (5 * s + k) + 3 * i) + (2)) (ia ((rfl : nI (48 * (5 * s + k) + 3 * i) = nI (48 * (5 * s + k) + 3 * i))) ((rfl : (2 : Int32) = nI 2))) (by omega)]
      conv => whnf
      refine ⟨_, hm.M, Nat.le_of_ble_eq_true rfl, ?_⟩
      conv => whnf
      refine callee hc (e_addG hm (0, -(gt l i).2.1, -(gt l i).2.2) rfl (by unfold mI; rw [e2']; exact i32_n hbv.2.1) (by unfold mI; rw [e3']; exact i32_n hbv.2.2) (inV_l hbv) r2 n2 (by omega) ?_)
      intro m2 h2 hm r3 n3 f3
      conv => whnf
      refine hK _ _ _ _ _ _ ?_
      refine go hc 2 (fun K hK => ?_)
      conv => whnf
      try simp only [nI_1]
      refine hK _ _ _ _ _ _ (Runs.less hc [0, 1, 2, 3] rfl rfl rfl rfl (ih (i + 1) m2 h2 _ (by omega) hm r3 n3 (f2'.trans f3) (by omega) hp2))
    · have hne : ¬ X = 2 := fun q => c (by rw [hX] at q; exact (nI_eq (by omega) (by decide)).mp q)
      have hp' : agL (agF G (gt l i)) (lst k (l.drop (i + 1))) = R := by
        unfold lst at hp ⊢
        rw [if_neg c] at hp ⊢
        exact hp
      refine ⟨fun c_ => absurd c_ (hne), fun c_ => ?_⟩
      conv => whnf
      refine hK _ _ _ _ _ _ ?_
      refine go hc 2 (fun K hK => ?_)
      conv => whnf
      try simp only [nI_1]
      refine hK _ _ _ _ _ _ (Runs.less hc [0, 1, 2, 3] rfl rfl rfl rfl (ih (i + 1) m1 h1 _ (by omega) hm r2 n2 f2' (by omega) hp'))
def gnL (T : Tab) (s : Nat) : List V3 := lnG (T s 2) ++ (T s 3 ++ T s 4)
theorem agL_len (vs : List V3) : ∀ G : List V3, (agL G vs).length ≤ G.length + vs.length := by
  induction vs with
  | nil => intro G; exact Nat.le_refl _
  | cons v vs ih =>
    intro G
    have h1 := ih (agF G v)
    have h2 := agF_len G v
    rw [List.length_cons]
    show (agL (agF G v) vs).length ≤ _
    omega
theorem e_takeG (hm : MR m D Z h) {s : Nat} {X : Int32} (hX : X = nI s) (hs : s < 4) (hT : Tb m T) (hok : okT T) (hG : RW m 4 0 G) (hgn : m 14 0 = (G.length : Int)) (hGl : G.length ≤ 200)
    (hQ : ∀ m' h', MR m' D Z h' → RW m' 4 0 (agL G (gnL T s)) → m' 14 0 = ((agL G (gnL T s)).length : Int) → Fx [4, 14] m m' → Q (.inl none) h') : wpC sc (d + 2) 98 [.ref 60, .int X] h Q := by
  subst hX
  have t2 := hT s 2 hs (by omega)
  have t3 := hT s 3 hs (by omega)
  have t4 := hT s 4 hs (by omega)
  have q2 := t2.2.2
  have q3 := t3.2.2
  have q4 := t4.2.2
  unfold gnL at hQ
  rw [agL_app, agL_app] at hQ
  have k2 := agL_len (lnG (T s 2)) G
  have k3 := agL_len (T s 3) (agL G (lnG (T s 2)))
  have k2' := lnG_len (T s 2)
  refine enter rfl rfl (fun call hc => go hc 5 (fun K hK => ?_))
  conv => whnf
  refine ⟨fun c_ => absurd c_ (by decide), fun c_ => ?_⟩
  conv => whnf
  refine hK _ _ _ _ _ _ (go hc 2 (fun K hK => ?_))
  conv => whnf
  try simp only [nI_1]
  refine hK _ _ _ _ _ _ (Runs.less hc [0, 1, 2, 3] rfl rfl rfl rfl (tk_in (Q := qth _ Q) hc hs (by omega) (Nat.le_refl 2) t2 (hok s 2 hs (by omega)) (R := agL G (lnG (T s 2))) rfl (fun m1 h1 hm1 r1 n1 f1 => ?_) (T s 2).length 0 m h G (by omega) hm hG hgn Fx.refl (by omega) rfl))
  refine go hc 5 (fun K hK => ?_)
  conv => whnf
  refine ⟨fun c_ => absurd c_ (by decide), fun c_ => ?_⟩
  conv => whnf
  refine hK _ _ _ _ _ _ (go hc 2 (fun K hK => ?_))
  conv => whnf
  try simp only [nI_1]
  refine hK _ _ _ _ _ _ (Runs.less hc [0, 1, 2, 3] rfl rfl rfl rfl (tk_in (Q := qth _ Q) hc hs (k := 3) (by omega) (by omega) t3 (hok s 3 hs (by omega)) (R := agL (agL G (lnG (T s 2))) (T s 3)) rfl (fun m2 h2 hm2 r2 n2 f2 => ?_) (T s 3).length 0 m1 h1 _ (by omega) hm1 r1 n1 f1 (by omega) rfl))
  refine go hc 5 (fun K hK => ?_)
  conv => whnf
  refine ⟨fun c_ => absurd c_ (by decide), fun c_ => ?_⟩
  conv => whnf
  refine hK _ _ _ _ _ _ (go hc 2 (fun K hK => ?_))
  conv => whnf
  try simp only [nI_1]
  refine hK _ _ _ _ _ _ (Runs.less hc [0, 1, 2, 3] rfl rfl rfl rfl (tk_in (Q := qth _ Q) hc hs (k := 4) (by omega) (by omega) t4 (hok s 4 hs (by omega)) (R := agL (agL (agL G (lnG (T s 2))) (T s 3)) (T s 4)) rfl (fun m3 h3 hm3 r3 n3 f3 => ?_) (T s 4).length 0 m2 h2 _ (by omega) hm2 r2 n2 f2 (by omega) rfl))
  refine go hc 5 (fun K hK => ?_)
  conv => whnf
  refine ⟨fun c_ => ?_, fun c_ => absurd (by decide) c_⟩
  conv => whnf
  refine hK _ _ _ _ _ _ (go hc 1 (fun K hK => ?_))
  conv => whnf
  exact hQ m3 h3 hm3 r3 n3 f3
theorem tkc_in {call : Callee} (hc : call = wpC sc (d + 1)) {m0 : MM} {s k : Nat} (hs : s < 4) (hk : k < 2) (hT : TB m0 s k l) (hb : ∀ v ∈ l, bdV 30 v) {R : List V3} {X : Int32} (hX : X = nI k)
    (hQ : ∀ m' h', MR m' D Z h' → RW m' 5 0 R → m' 15 0 = (R.length : Int) → Fx [5, 15] m0 m' → Runs (d + 1) call sc m_X4_takeConstraints Q 75 [(0, .ref 60), (1, .int (nI s)), (2, .int X)] [] h' 0 0) :
    ∀ (n i : Nat) (m : MM) (h : PH) (C : List V3), i + n = l.length → MR m D Z h → RW m 5 0 C → m 15 0 = (C.length : Int) → Fx [5, 15] m0 m → C.length + 2 * n ≤ 600 → acL (decide (k = 0)) C (l.drop i) = R →
    Runs (d + 1) call sc m_X4_takeConstraints Q 9 [(0, .ref 60), (1, .int (nI s)), (2, .int X), (3, .int (nI i))] [] h 0 0 := by
  have hl16 := hT.2.2
  intro n
  induction n with
  | zero =>
    intro i m h C hi hm r1 n1 f1 hl hp
    rw [List.drop_eq_nil_of_le (by omega)] at hp
    have hp : C = R := hp
    subst hp
    refine go hc 6 (fun K hK => ?_)
    conv => whnf
    refine ⟨_, hm.M, Nat.le_of_ble_eq_true rfl, ?_⟩
    conv => whnf
    refine callee hc (e_count hm (k := k) rfl hX hs (by omega) (hT.eq (f1 2 (by decide)) (f1 3 (by decide))) ?_)
    conv => whnf
    refine ⟨fun c_ => ?_, fun c_ => absurd (nI_le (by omega) (by omega)) c_⟩
    conv => whnf
    try simp only [nI_1]
    refine hK _ _ _ _ _ _ (Runs.less hc [0, 1, 2] rfl rfl rfl rfl (hQ m h hm r1 n1 f1))
  | succ n ih =>
    intro i m h C hi hm r1 n1 f1 hl hp
    have hil : i < l.length := by omega
    have hT' := hT.eq (f1 2 (by decide)) (f1 3 (by decide))
    obtain ⟨e1, e2, e3⟩ := hT'.2.1.at hil
    have hbv := hb _ (gt_mem hil)
    have hal := acF_len C (gt l i) (decide (k = 0))
    have hr : 48 * (5 * s + k) + 3 * i + 2 < 960 := by omega
    rw [drop_gt hil] at hp
    have hp' : acL (decide (k = 0)) (acF C (gt l i) (decide (k = 0))) (l.drop (i + 1)) = R := hp
    have h66 : ∀ b : Bool, b = decide (k = 0) → Runs (d + 1) call sc m_X4_takeConstraints Q 66 [(0, .ref 60), (1, .int (nI s)), (2, .int X), (3, .int (nI i))] [.int (bI01 b), .long (Int64.ofInt (gt l i).2.2), .long (Int64.ofInt (gt l i).2.1), .long (Int64.ofInt (gt l i).1), .ref 60] h 0 0 := by
      intro b hb'
      subst hb'
      refine go hc 3 (fun K hK => ?_)
      conv => whnf
      refine ⟨_, hm.M, Nat.le_of_ble_eq_true rfl, ?_⟩
      conv => whnf
      refine callee hc (e_addC hm (gt l i) (decide (k = 0)) rfl rfl rfl (inV30 hbv) r1 n1 (by omega) ?_)
      intro m1 h1 hm r2 n2 f2
      conv => whnf
      try simp only [nI_1]
      refine hK _ _ _ _ _ _ (Runs.less hc [0, 1, 2, 3] rfl rfl rfl rfl (ih (i + 1) m1 h1 _ (by omega) hm r2 n2 (f1.trans f2) (by omega) hp'))
    refine go hc 6 (fun K hK => ?_)
    conv => whnf
    refine ⟨_, hm.M, Nat.le_of_ble_eq_true rfl, ?_⟩
    conv => whnf
    refine callee hc (e_count hm (k := k) rfl hX hs (by omega) hT' ?_)
    conv => whnf
    refine ⟨fun c_ => absurd c_ (nI_ge hil (by omega)), fun c_ => ?_⟩
    conv => whnf
    refine hK _ _ _ _ _ _ (go hc 28 (fun K hK => ?_))
    conv => whnf
    refine ⟨_, hm.M, Nat.le_of_ble_eq_true rfl, ?_⟩
    conv => whnf
    refine callee hc (e_at (s := s) (k := k) (i := i) rfl hX rfl ?_)
    conv => whnf
    refine ⟨_, _, hm.M, rfl, ?_⟩
    conv => whnf
    refine Or.inr ⟨_, _, hm.I3, ixv (k := 48 * (5 * s + k) + 3 * i) ((rfl : nI (48 * (5 * s + k) + 3 * i) = nI (48 * (5 * s + k) + 3 * i))) (by omega) (Nat.le_of_ble_eq_true rfl), ?_⟩
    rw [ixc (k := 48 * (5 * s + k) + 3 * i) ((rfl : nI (48 * (5 * s + k) + 3 * i) = nI (48 * (5 * s + k) + 3 * i))) (by omega)]
    conv => whnf
    refine ⟨_, _, hm.M, rfl, ?_⟩
    conv => whnf
    refine Or.inr ⟨_, _, hm.I3, ixv (k := (48 * (5 * s + k) + 3 * i) + (1)) (ia ((rfl : nI (48 * (5 * s + k) + 3 * i) = nI (48 * (5 * s + k) + 3 * i))) ((rfl : (1 : Int32) = nI 1))) (by omega) (Nat.le_of_ble_eq_true rfl), ?_⟩
    rw [ixc (k := (48 * (5 * s + k) + 3 * i) + (1)) (ia ((rfl : nI (48 * (5 * s + k) + 3 * i) = nI (48 * (5 * s + k) + 3 * i))) ((rfl : (1 : Int32) = nI 1))) (by omega)]
    conv => whnf
    refine ⟨_, _, hm.M, rfl, ?_⟩
    conv => whnf
    refine Or.inr ⟨_, _, hm.I3, ixv (k := (48 * (5 * s + k) + 3 * i) + (2)) (ia ((rfl : nI (48 * (5 * s + k) + 3 * i) = nI (48 * (5 * s + k) + 3 * i))) ((rfl : (2 : Int32) = nI 2))) (by omega) (Nat.le_of_ble_eq_true rfl), ?_⟩
    rw [ixc (k := (48 * (5 * s + k) + 3 * i) + (2)) (ia ((rfl : nI (48 * (5 * s + k) + 3 * i) = nI (48 * (5 * s + k) + 3 * i))) ((rfl : (2 : Int32) = nI 2))) (by omega)]
    conv => whnf
    rw [show (mI m 3 (48 * (5 * s + k) + 3 * i)).toInt64 = Int64.ofInt (gt l i).1 from by unfold mI; rw [e1]; exact i32_l hbv.1, show (mI m 3 (48 * (5 * s + k) + 3 * i + 1)).toInt64 = Int64.ofInt (gt l i).2.1 from by unfold mI; rw [e2]; exact i32_l hbv.2.1, show (mI m 3 (48 * (5 * s + k) + 3 * i + 2)).toInt64 = Int64.ofInt (gt l i).2.2 from by unfold mI; rw [e3]; exact i32_l hbv.2.2]
    by_cases c : k = 0
    · subst c
      subst hX
      refine ⟨fun c_ => ?_, fun c_ => absurd (rfl) c_⟩
      conv => whnf
      refine hK _ _ _ _ _ _ (go hc 2 (fun K hK => ?_))
      conv => whnf
      try simp only [nI_1]
      refine hK _ _ _ _ _ _ (Runs.less hc [0, 1, 2, 3] rfl rfl rfl rfl (h66 true rfl))
    · refine ⟨fun c_ => absurd c_ (fun q => c (by rw [hX] at q; exact (nI_eq (by omega) (by decide)).mp q)), fun c_ => ?_⟩
      conv => whnf
      refine hK _ _ _ _ _ _ (go hc 1 (fun K hK => ?_))
      conv => whnf
      try simp only [nI_1]
      refine hK _ _ _ _ _ _ (Runs.less hc [0, 1, 2, 3] rfl rfl rfl rfl (h66 false (decide_eq_false c).symm))
theorem acL_len (b : Bool) (vs : List V3) : ∀ C : List V3, (acL b C vs).length ≤ C.length + 2 * vs.length := by
  induction vs with
  | nil => intro C; exact Nat.le_refl _
  | cons v vs ih =>
    intro C
    have h1 := ih (acF C v b)
    have h2 := acF_len C v b
    rw [List.length_cons]
    show (acL b (acF C v b) vs).length ≤ _
    omega
def cnL (C : List V3) (T : Tab) (s : Nat) : List V3 := acL false (acL true C (T s 0)) (T s 1)
theorem e_takeC (hm : MR m D Z h) {s : Nat} {X : Int32} (hX : X = nI s) (hs : s < 4) (hT : Tb m T) (hok : okT T) (hK0 : RW m 5 0 Kc) (hkn : m 15 0 = (Kc.length : Int)) (hKl : Kc.length ≤ 200)
    (hQ : ∀ m' h', MR m' D Z h' → RW m' 5 0 (cnL Kc T s) → m' 15 0 = ((cnL Kc T s).length : Int) → Fx [5, 15] m m' → Q (.inl none) h') : wpC sc (d + 2) 99 [.ref 60, .int X] h Q := by
  subst hX
  have t0 := hT s 0 hs (by omega)
  have t1 := hT s 1 hs (by omega)
  have q0 := t0.2.2
  have q1 := t1.2.2
  unfold cnL at hQ
  have k0 := acL_len true (T s 0) Kc
  refine enter rfl rfl (fun call hc => go hc 5 (fun K hK => ?_))
  conv => whnf
  refine ⟨fun c_ => absurd c_ (by decide), fun c_ => ?_⟩
  conv => whnf
  refine hK _ _ _ _ _ _ (go hc 2 (fun K hK => ?_))
  conv => whnf
  try simp only [nI_1]
  refine hK _ _ _ _ _ _ (Runs.less hc [0, 1, 2, 3] rfl rfl rfl rfl (tkc_in (Q := qth _ Q) hc hs (k := 0) (by omega) t0 (hok s 0 hs (by omega)) (R := acL true Kc (T s 0)) rfl (fun m1 h1 hm1 r1 n1 f1 => ?_) (T s 0).length 0 m h Kc (by omega) hm hK0 hkn Fx.refl (by omega) rfl))
  refine go hc 5 (fun K hK => ?_)
  conv => whnf
  refine ⟨fun c_ => absurd c_ (by decide), fun c_ => ?_⟩
  conv => whnf
  refine hK _ _ _ _ _ _ (go hc 2 (fun K hK => ?_))
  conv => whnf
  try simp only [nI_1]
  refine hK _ _ _ _ _ _ (Runs.less hc [0, 1, 2, 3] rfl rfl rfl rfl (tkc_in (Q := qth _ Q) hc hs (k := 1) (by omega) t1 (hok s 1 hs (by omega)) (R := acL false (acL true Kc (T s 0)) (T s 1)) rfl (fun m2 h2 hm2 r2 n2 f2 => ?_) (T s 1).length 0 m1 h1 _ (by omega) hm1 r1 n1 f1 (by omega) rfl))
  refine go hc 5 (fun K hK => ?_)
  conv => whnf
  refine ⟨fun c_ => ?_, fun c_ => absurd (by decide) c_⟩
  conv => whnf
  refine hK _ _ _ _ _ _ (go hc 1 (fun K hK => ?_))
  conv => whnf
  exact hQ m2 h2 hm2 r2 n2 f2
end ETAKE2
