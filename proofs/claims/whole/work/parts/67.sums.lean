/-! the reference's sums and combining -/
def dLn (l : List V3) : List V3 := l.flatMap fun v => [(0, v.2.1, v.2.2), (0, -v.2.1, -v.2.2)]
def dRn (l : List V3) : List V3 := l.map fun v => (0, v.2.1, v.2.2)
def dKd (k : Nat) (l : List V3) : List V3 := if k = 2 then dLn l else dRn l
def sumP (l1 l2 : List V3) : List V3 := l1.flatMap fun p => l2.map fun q => sumV p q
def tsL (T : Tab) (i j : Nat) : List V3 := dLn (T i 2) ++ (dLn (T j 2) ++ (dRn (T i 3) ++ (dRn (T j 3) ++ sumP (T i 4) (T j 4))))
theorem i32_b {B a : Int} (h : bdI B a) (hB : B < 100000) : (Int32.ofInt a).toInt64 = Int64.ofInt a := by
  have h1 := h.1; have h2 := h.2
  refine Int64.toInt_inj.mp ?_
  rw [Int32.toInt_toInt64, Int32.toInt_ofInt_of_le (by omega) (by omega), oI_toInt ⟨by omega, by omega⟩]
theorem i32_m {a b : Int} (ha : bdI 30 a) (hb : bdI 30 b) : (Int32.ofInt a * Int32.ofInt b).toInt64 = Int64.ofInt (a * b) := by
  rw [← Int32.ofInt_mul]
  exact i32_b (bd_mul2 ha hb) (by decide)
theorem i32_mm {a b c e : Int} (ha : bdI 30 a) (hb : bdI 30 b) (hc : bdI 30 c) (he : bdI 30 e) : (Int32.ofInt a * Int32.ofInt b + Int32.ofInt c * Int32.ofInt e).toInt64 = Int64.ofInt (a * b + c * e) := by
  rw [← Int32.ofInt_mul, ← Int32.ofInt_mul, ← Int32.ofInt_add]
  have h1 := bd_mul2 ha hb
  have h2 := bd_mul2 hc he
  exact i32_b (B := 1800) ⟨by have := h1.1; have := h2.1; omega, by have := h1.2; have := h2.2; omega⟩ (by decide)
theorem dKd_len (k : Nat) (l : List V3) : (dKd k l).length ≤ 2 * l.length := by
  unfold dKd
  split
  · unfold dLn
    induction l with
    | nil => simp
    | cons v l ih =>
      rw [List.flatMap_cons, List.length_append, List.length_cons]
      simp only [List.length_cons, List.length_nil]
      omega
  · unfold dRn
    rw [List.length_map]; omega
section ESUMS
variable {sc : Scr} {d : Nat} {m : MM} {D Z h : PH} {Q : Out → PH → Prop} {G l : List V3} {T : Tab}
theorem ts_in {call : Callee} (hc : call = wpC sc (d + 1)) {m0 : MM} {s k : Nat} (hs : s < 4) (hk : k = 2 ∨ k = 3) (hT : TB m0 s k l) (hb : ∀ v ∈ l, bdV 30 v) {R : List V3} {A B X Y : Int32} (hX : X = nI k)
    (hQ : ∀ m' h', MR m' D Z h' → RW m' 4 0 R → m' 14 0 = (R.length : Int) → Fx [4, 14] m0 m' → Runs (d + 1) call sc m_X4_takeSums Q 117 [(0, .ref 60), (1, .int A), (2, .int B), (3, .int X), (4, .int Y)] [] h' 0 0) :
    ∀ (n i : Nat) (m : MM) (h : PH) (G : List V3), i + n = l.length → MR m D Z h → RW m 4 0 G → m 14 0 = (G.length : Int) → Fx [4, 14] m0 m → G.length + 2 * n ≤ 600 → agL G (dKd k (l.drop i)) = R →
    Runs (d + 1) call sc m_X4_takeSums Q 31 [(0, .ref 60), (1, .int A), (2, .int B), (3, .int X), (4, .int Y), (5, .int (nI s)), (6, .int (nI i))] [] h 0 0 := by
  have hl16 := hT.2.2
  intro n
  induction n with
  | zero =>
    intro i m h G hi hm r1 n1 f1 hl hp
    rw [List.drop_eq_nil_of_le (by omega), show dKd k [] = [] by unfold dKd; split <;> rfl] at hp
    have hp : G = R := hp
    subst hp
    refine go hc 6 (fun K hK => ?_)
    conv => whnf
    refine ⟨_, hm.M, Nat.le_of_ble_eq_true rfl, ?_⟩
    conv => whnf
    refine callee hc (e_count hm (k := k) rfl hX hs (by omega) (hT.eq (f1 2 (by decide)) (f1 3 (by decide))) ?_)
    conv => whnf
    refine ⟨fun c_ => ?_, fun c_ => absurd (nI_le (by omega) (by omega)) c_⟩
    conv => whnf
    try simp only [nI_1]
    refine hK _ _ _ _ _ _ (Runs.less hc [0, 1, 2, 3, 4] rfl rfl rfl rfl (hQ m h hm r1 n1 f1))
  | succ n ih =>
    intro i m h G hi hm r1 n1 f1 hl hp
    have hil : i < l.length := by omega
    have hT' := hT.eq (f1 2 (by decide)) (f1 3 (by decide))
    obtain ⟨e1, e2, e3⟩ := hT'.2.1.at hil
    have hbv := hb _ (gt_mem hil)
    have hal := agF_len G (0, (gt l i).2.1, (gt l i).2.2)
    have hr : 48 * (5 * s + k) + 3 * i + 2 < 960 := by omega
    have iv : inV ((0, (gt l i).2.1, (gt l i).2.2) : V3) := ⟨inL_0, bd30_in hbv.2.1, bd30_in hbv.2.2⟩
    rw [drop_gt hil] at hp
    have n111 : ∀ (m' : MM) (h' : PH) (G' : List V3) (v7 : Int32), MR m' D Z h' → RW m' 4 0 G' → m' 14 0 = (G'.length : Int) → Fx [4, 14] m0 m' → G'.length + 2 * n ≤ 600 → agL G' (dKd k (l.drop (i + 1))) = R →
        Runs (d + 1) call sc m_X4_takeSums Q 111 [(0, .ref 60), (1, .int A), (2, .int B), (3, .int X), (4, .int Y), (5, .int (nI s)), (6, .int (nI i)), (7, .int v7)] [] h' 0 0 := by
      intro m' h' G' v7 hm' r' n' f' hl' hp'
      refine go hc 2 (fun K hK => ?_)
      conv => whnf
      try simp only [nI_1]
      refine hK _ _ _ _ _ _ (Runs.less hc [0, 1, 2, 3, 4, 5, 6] rfl rfl rfl rfl (ih (i + 1) m' h' G' (by omega) hm' r' n' f' hl' hp'))
    refine go hc 6 (fun K hK => ?_)
    conv => whnf
    refine ⟨_, hm.M, Nat.le_of_ble_eq_true rfl, ?_⟩
    conv => whnf
    refine callee hc (e_count hm (k := k) rfl hX hs (by omega) hT' ?_)
    conv => whnf
    refine ⟨fun c_ => absurd c_ (nI_ge hil (by omega)), fun c_ => ?_⟩
    conv => whnf
    refine hK _ _ _ _ _ _ (go hc 26 (fun K hK => ?_))
    conv => whnf
    refine ⟨_, hm.M, Nat.le_of_ble_eq_true rfl, ?_⟩
    conv => whnf
    refine callee hc (e_at (s := s) (k := k) (i := i) rfl hX rfl ?_)
    conv => whnf
    refine ⟨_, _, hm.M, rfl, ?_⟩
    conv => whnf
    refine Or.inr ⟨_, _, hm.I3, ixv (k := (48 * (5 * s + k) + 3 * i) + (1)) (ia ((rfl : nI (48 * (5 * s + k) + 3 * i) = nI (48 * (5 * s + k) + 3 * i))) ((rfl : (1 : Int32) = nI 1))) (by omega) (Nat.le_of_ble_eq_true rfl), ?_⟩
    rw [ixc (k := (48 * (5 * s + k) + 3 * i) + (1)) (ia ((rfl : nI (48 * (5 * s + k) + 3 * i) = nI (48 * (5 * s + k) + 3 * i))) ((rfl : (1 : Int32) = nI 1))) (by omega)]
    conv => whnf
    refine ⟨_, _, hm.M, rfl, ?_⟩
    conv => whnf
    refine Or.inr ⟨_, _, hm.I3, ixv (k := (48 * (5 * s + k) + 3 * i) + (2)) (ia ((rfl : nI (48 * (5 * s + k) + 3 * i) = nI (48 * (5 * s + k) + 3 * i))) ((rfl : (2 : Int32) = nI 2))) (by omega) (Nat.le_of_ble_eq_true rfl), ?_⟩
    rw [ixc (k := (48 * (5 * s + k) + 3 * i) + (2)) (ia ((rfl : nI (48 * (5 * s + k) + 3 * i) = nI (48 * (5 * s + k) + 3 * i))) ((rfl : (2 : Int32) = nI 2))) (by omega)]
    conv => whnf
    refine ⟨_, hm.M, Nat.le_of_ble_eq_true rfl, ?_⟩
    conv => whnf
    refine callee hc (e_addG hm (0, (gt l i).2.1, (gt l i).2.2) rfl (by unfold mI; rw [e2]; exact i32_l hbv.2.1) (by unfold mI; rw [e3]; exact i32_l hbv.2.2) iv r1 n1 (by omega) ?_)
    intro m1 h1 hm r2 n2 f2
    conv => whnf
    have f2' := f1.trans f2
    by_cases c : k = 2
    · have hal2 := agF_len (agF G (0, (gt l i).2.1, (gt l i).2.2)) (0, -(gt l i).2.1, -(gt l i).2.2)
      have e2' : m1 3 (48 * (5 * s + k) + 3 * i + 1) = (gt l i).2.1 := by rw [f2 3 (by decide)]; exact e2
      have e3' : m1 3 (48 * (5 * s + k) + 3 * i + 2) = (gt l i).2.2 := by rw [f2 3 (by decide)]; exact e3
      have hp2 : agL (agF (agF G (0, (gt l i).2.1, (gt l i).2.2)) (0, -(gt l i).2.1, -(gt l i).2.2)) (dKd k (l.drop (i + 1))) = R := by
        unfold dKd at hp ⊢
        rw [if_pos c] at hp ⊢
        exact hp
      refine ⟨fun c_ => ?_, fun c_ => absurd ((by rw [hX, c]; rfl)) c_⟩
      conv => whnf
      refine hK _ _ _ _ _ _ (go hc 19 (fun K hK => ?_))
      conv => whnf
      refine ⟨_, _, hm.M, rfl, ?_⟩
      conv => whnf
      refine Or.inr ⟨_, _, hm.I3, ixv (k := (48 * (5 * s + k) + 3 * i) + (1)) (ia ((rfl : nI (48 * (5 * s + k) + 3 * i) = nI (48 * (5 * s + k) + 3 * i))) ((rfl : (1 : Int32) = nI 1))) (by omega) (Nat.le_of_ble_eq_true rfl), ?_⟩
      rw [ixc (k := (48 * (5 * s + k) + 3 * i) + (1)) (ia ((rfl : nI (48 * (5 * s + k) + 3 * i) = nI (48 * (5 * s + k) + 3 * i))) ((rfl : (1 : Int32) = nI 1))) (by omega)]
      conv => whnf
      refine ⟨_, _, hm.M, rfl, ?_⟩
      conv => whnf
      refine Or.inr ⟨_, _, hm.I3, ixv (k := (48 * (5 * s + k) + 3 * i) + (2)) (ia ((rfl : nI (48 * (5 * s + k) + 3 * i) = nI (48 * (5 * s + k) + 3 * i))) ((rfl : (2 : Int32) = nI 2))) (by omega) (Nat.le_of_ble_eq_true rfl), ?_⟩
      rw [ixc (k := (48 * (5 * s + k) + 3 * i) + (2)) (ia ((rfl : nI (48 * (5 * s + k) + 3 * i) = nI (48 * (5 * s + k) + 3 * i))) ((rfl : (2 : Int32) = nI 2))) (by omega)]
      conv => whnf
      refine ⟨_, hm.M, Nat.le_of_ble_eq_true rfl, ?_⟩
      conv => whnf
      refine callee hc (e_addG hm (0, -(gt l i).2.1, -(gt l i).2.2) rfl (by unfold mI; rw [e2']; exact i32_n hbv.2.1) (by unfold mI; rw [e3']; exact i32_n hbv.2.2) (inV_l hbv) r2 n2 (by omega) ?_)
      intro m2 h2 hm r3 n3 f3
      conv => whnf
      refine hK _ _ _ _ _ _ (n111 m2 h2 _ _ hm r3 n3 (f2'.trans f3) (by omega) hp2)
    · have hp' : agL (agF G (0, (gt l i).2.1, (gt l i).2.2)) (dKd k (l.drop (i + 1))) = R := by
        unfold dKd at hp ⊢
        rw [if_neg c] at hp ⊢
        exact hp
      refine ⟨fun c_ => absurd c_ ((fun q => c (by rw [hX] at q; exact (nI_eq (by omega) (by decide)).mp q))), fun c_ => ?_⟩
      conv => whnf
      refine hK _ _ _ _ _ _ (n111 m1 h1 _ _ hm r2 n2 f2' (by omega) hp')
theorem tp_j {call : Callee} (hc : call = wpC sc (d + 1)) {m0 : MM} {s t i : Nat} (hs : s < 4) (ht : t < 4) {l1 l2 : List V3} (hT1 : TB m0 s 4 l1) (hT2 : TB m0 t 4 l2) (hb1 : ∀ v ∈ l1, bdV 30 v) (hb2 : ∀ v ∈ l2, bdV 30 v) (hi : i < l1.length) {R : List V3}
    (hQ : ∀ m' h', MR m' D Z h' → RW m' 4 0 R → m' 14 0 = (R.length : Int) → Fx [4, 14] m0 m' → Runs (d + 1) call sc m_X4_takeSums Q 272 [(0, .ref 60), (1, .int (nI s)), (2, .int (nI t)), (3, .int (nI i))] [] h' 0 0) :
    ∀ (n j : Nat) (m : MM) (h : PH) (G : List V3), j + n = l2.length → MR m D Z h → RW m 4 0 G → m 14 0 = (G.length : Int) → Fx [4, 14] m0 m → G.length + n ≤ 600 → agL G ((l2.drop j).map fun q => sumV (gt l1 i) q) = R →
    Runs (d + 1) call sc m_X4_takeSums Q 144 [(0, .ref 60), (1, .int (nI s)), (2, .int (nI t)), (3, .int (nI i)), (4, .int (nI j))] [] h 0 0 := by
  have hl1 := hT1.2.2
  have hl2 := hT2.2.2
  intro n
  induction n with
  | zero =>
    intro j m h G hj hm r1 n1 f1 hl hp
    rw [List.drop_eq_nil_of_le (by omega)] at hp
    have hp : G = R := hp
    subst hp
    refine go hc 6 (fun K hK => ?_)
    conv => whnf
    refine ⟨_, hm.M, Nat.le_of_ble_eq_true rfl, ?_⟩
    conv => whnf
    refine callee hc (e_count hm (k := 4) rfl rfl ht (by omega) (hT2.eq (f1 2 (by decide)) (f1 3 (by decide))) ?_)
    conv => whnf
    refine ⟨fun c_ => ?_, fun c_ => absurd (nI_le (by omega) (by omega)) c_⟩
    conv => whnf
    try simp only [nI_1]
    refine hK _ _ _ _ _ _ (Runs.less hc [0, 1, 2, 3] rfl rfl rfl rfl (hQ m h hm r1 n1 f1))
  | succ n ih =>
    intro j m h G hj hm r1 n1 f1 hl hp
    have hjl : j < l2.length := by omega
    have hT1' := hT1.eq (f1 2 (by decide)) (f1 3 (by decide))
    have hT2' := hT2.eq (f1 2 (by decide)) (f1 3 (by decide))
    obtain ⟨a0, a1, a2⟩ := hT1'.2.1.at hi
    obtain ⟨b0, b1, b2⟩ := hT2'.2.1.at hjl
    have hba := hb1 _ (gt_mem hi)
    have hbb := hb2 _ (gt_mem hjl)
    have hal := agF_len G (sumV (gt l1 i) (gt l2 j))
    have iv : inV (sumV (gt l1 i) (gt l2 j)) := by
      have h1 := bd_mul2 hba.1 hbb.1
      have h2 := bd_mul2 hba.2.1 hbb.1
      have h3 := bd_mul2 hbb.2.1 hba.1
      have h4 := bd_mul2 hba.2.2 hbb.1
      have h5 := bd_mul2 hbb.2.2 hba.1
      unfold bdI at h1 h2 h3 h4 h5
      unfold inV sumV inL
      simp only
      omega
    rw [drop_gt hjl, List.map_cons] at hp
    have hp : agL (agF G (sumV (gt l1 i) (gt l2 j))) ((l2.drop (j + 1)).map fun q => sumV (gt l1 i) q) = R := hp
    refine go hc 6 (fun K hK => ?_)
    conv => whnf
    refine ⟨_, hm.M, Nat.le_of_ble_eq_true rfl, ?_⟩
    conv => whnf
    refine callee hc (e_count hm (k := 4) rfl rfl ht (by omega) hT2' ?_)
    conv => whnf
    refine ⟨fun c_ => absurd c_ (nI_ge hjl (by omega)), fun c_ => ?_⟩
    conv => whnf
    refine hK _ _ _ _ _ _ (go hc 74 (fun K hK => ?_))
    conv => whnf
    refine ⟨_, hm.M, Nat.le_of_ble_eq_true rfl, ?_⟩
    conv => whnf
    refine callee hc (e_at (s := s) (k := 4) (i := i) rfl rfl rfl ?_)
    conv => whnf
    refine ⟨_, hm.M, Nat.le_of_ble_eq_true rfl, ?_⟩
    conv => whnf
    refine callee hc (e_at (s := t) (k := 4) (i := j) rfl rfl rfl ?_)
    conv => whnf
    refine ⟨_, _, hm.M, rfl, ?_⟩
    conv => whnf
    refine Or.inr ⟨_, _, hm.I3, ixv (k := 48 * (5 * s + 4) + 3 * i) ((rfl : nI (48 * (5 * s + 4) + 3 * i) = nI (48 * (5 * s + 4) + 3 * i))) (by omega) (Nat.le_of_ble_eq_true rfl), ?_⟩
    rw [ixc (k := 48 * (5 * s + 4) + 3 * i) ((rfl : nI (48 * (5 * s + 4) + 3 * i) = nI (48 * (5 * s + 4) + 3 * i))) (by omega)]
    conv => whnf
    refine ⟨_, _, hm.M, rfl, ?_⟩
    conv => whnf
    refine Or.inr ⟨_, _, hm.I3, ixv (k := 48 * (5 * t + 4) + 3 * j) ((rfl : nI (48 * (5 * t + 4) + 3 * j) = nI (48 * (5 * t + 4) + 3 * j))) (by omega) (Nat.le_of_ble_eq_true rfl), ?_⟩
    rw [ixc (k := 48 * (5 * t + 4) + 3 * j) ((rfl : nI (48 * (5 * t + 4) + 3 * j) = nI (48 * (5 * t + 4) + 3 * j))) (by omega)]
    conv => whnf
    refine ⟨_, _, hm.M, rfl, ?_⟩
    conv => whnf
    refine Or.inr ⟨_, _, hm.I3, ixv (k := (48 * (5 * s + 4) + 3 * i) + (1)) (ia ((rfl : nI (48 * (5 * s + 4) + 3 * i) = nI (48 * (5 * s + 4) + 3 * i))) ((rfl : (1 : Int32) = nI 1))) (by omega) (Nat.le_of_ble_eq_true rfl), ?_⟩
    rw [ixc (k := (48 * (5 * s + 4) + 3 * i) + (1)) (ia ((rfl : nI (48 * (5 * s + 4) + 3 * i) = nI (48 * (5 * s + 4) + 3 * i))) ((rfl : (1 : Int32) = nI 1))) (by omega)]
    conv => whnf
    refine ⟨_, _, hm.M, rfl, ?_⟩
    conv => whnf
    refine Or.inr ⟨_, _, hm.I3, ixv (k := 48 * (5 * t + 4) + 3 * j) ((rfl : nI (48 * (5 * t + 4) + 3 * j) = nI (48 * (5 * t + 4) + 3 * j))) (by omega) (Nat.le_of_ble_eq_true rfl), ?_⟩
    rw [ixc (k := 48 * (5 * t + 4) + 3 * j) ((rfl : nI (48 * (5 * t + 4) + 3 * j) = nI (48 * (5 * t + 4) + 3 * j))) (by omega)]
    conv => whnf
    refine ⟨_, _, hm.M, rfl, ?_⟩
    conv => whnf
    refine Or.inr ⟨_, _, hm.I3, ixv (k := (48 * (5 * t + 4) + 3 * j) + (1)) (ia ((rfl : nI (48 * (5 * t + 4) + 3 * j) = nI (48 * (5 * t + 4) + 3 * j))) ((rfl : (1 : Int32) = nI 1))) (by omega) (Nat.le_of_ble_eq_true rfl), ?_⟩
    rw [ixc (k := (48 * (5 * t + 4) + 3 * j) + (1)) (ia ((rfl : nI (48 * (5 * t + 4) + 3 * j) = nI (48 * (5 * t + 4) + 3 * j))) ((rfl : (1 : Int32) = nI 1))) (by omega)]
    conv => whnf
    refine ⟨_, _, hm.M, rfl, ?_⟩
    conv => whnf
    refine Or.inr ⟨_, _, hm.I3, ixv (k := 48 * (5 * s + 4) + 3 * i) ((rfl : nI (48 * (5 * s + 4) + 3 * i) = nI (48 * (5 * s + 4) + 3 * i))) (by omega) (Nat.le_of_ble_eq_true rfl), ?_⟩
    rw [ixc (k := 48 * (5 * s + 4) + 3 * i) ((rfl : nI (48 * (5 * s + 4) + 3 * i) = nI (48 * (5 * s + 4) + 3 * i))) (by omega)]
    conv => whnf
    refine ⟨_, _, hm.M, rfl, ?_⟩
    conv => whnf
    refine Or.inr ⟨_, _, hm.I3, ixv (k := (48 * (5 * s + 4) + 3 * i) + (2)) (ia ((rfl : nI (48 * (5 * s + 4) + 3 * i) = nI (48 * (5 * s + 4) + 3 * i))) ((rfl : (2 : Int32) = nI 2))) (by omega) (Nat.le_of_ble_eq_true rfl), ?_⟩
    rw [ixc (k := (48 * (5 * s + 4) + 3 * i) + (2)) (ia ((rfl : nI (48 * (5 * s + 4) + 3 * i) = nI (48 * (5 * s + 4) + 3 * i))) ((rfl : (2 : Int32) = nI 2))) (by omega)]
    conv => whnf
    refine ⟨_, _, hm.M, rfl, ?_⟩
    conv => whnf
    refine Or.inr ⟨_, _, hm.I3, ixv (k := 48 * (5 * t + 4) + 3 * j) ((rfl : nI (48 * (5 * t + 4) + 3 * j) = nI (48 * (5 * t + 4) + 3 * j))) (by omega) (Nat.le_of_ble_eq_true rfl), ?_⟩
    rw [ixc (k := 48 * (5 * t + 4) + 3 * j) ((rfl : nI (48 * (5 * t + 4) + 3 * j) = nI (48 * (5 * t + 4) + 3 * j))) (by omega)]
    conv => whnf
    refine ⟨_, _, hm.M, rfl, ?_⟩
    conv => whnf
    refine Or.inr ⟨_, _, hm.I3, ixv (k := (48 * (5 * t + 4) + 3 * j) + (2)) (ia ((rfl : nI (48 * (5 * t + 4) + 3 * j) = nI (48 * (5 * t + 4) + 3 * j))) ((rfl : (2 : Int32) = nI 2))) (by omega) (Nat.le_of_ble_eq_true rfl), ?_⟩
    rw [ixc (k := (48 * (5 * t + 4) + 3 * j) + (2)) (ia ((rfl : nI (48 * (5 * t + 4) + 3 * j) = nI (48 * (5 * t + 4) + 3 * j))) ((rfl : (2 : Int32) = nI 2))) (by omega)]
    conv => whnf
    refine ⟨_, _, hm.M, rfl, ?_⟩
    conv => whnf
    refine Or.inr ⟨_, _, hm.I3, ixv (k := 48 * (5 * s + 4) + 3 * i) ((rfl : nI (48 * (5 * s + 4) + 3 * i) = nI (48 * (5 * s + 4) + 3 * i))) (by omega) (Nat.le_of_ble_eq_true rfl), ?_⟩
    rw [ixc (k := 48 * (5 * s + 4) + 3 * i) ((rfl : nI (48 * (5 * s + 4) + 3 * i) = nI (48 * (5 * s + 4) + 3 * i))) (by omega)]
    conv => whnf
    refine ⟨_, hm.M, Nat.le_of_ble_eq_true rfl, ?_⟩
    conv => whnf
    refine callee hc (e_addG hm (sumV (gt l1 i) (gt l2 j)) (by unfold mI; rw [a0, b0]; exact i32_m hba.1 hbb.1) (by unfold mI; rw [a0, b0, a1, b1]; exact i32_mm hba.2.1 hbb.1 hbb.2.1 hba.1) (by unfold mI; rw [a0, b0, a2, b2]; exact i32_mm hba.2.2 hbb.1 hbb.2.2 hba.1) iv r1 n1 (by omega) ?_)
    intro m1 h1 hm r2 n2 f2
    conv => whnf
    try simp only [nI_1]
    refine hK _ _ _ _ _ _ (Runs.less hc [0, 1, 2, 3, 4] rfl rfl rfl rfl (ih (j + 1) m1 h1 _ (by omega) hm r2 n2 (f1.trans f2) (by omega) hp))
theorem tp_i {call : Callee} (hc : call = wpC sc (d + 1)) {m0 : MM} {s t : Nat} (hs : s < 4) (ht : t < 4) {l1 l2 : List V3} (hT1 : TB m0 s 4 l1) (hT2 : TB m0 t 4 l2) (hb1 : ∀ v ∈ l1, bdV 30 v) (hb2 : ∀ v ∈ l2, bdV 30 v) {R : List V3}
    (hQ : ∀ m' h', MR m' D Z h' → RW m' 4 0 R → m' 14 0 = (R.length : Int) → Fx [4, 14] m0 m' → Q (.inl none) h') :
    ∀ (n i : Nat) (m : MM) (h : PH) (G : List V3), i + n = l1.length → MR m D Z h → RW m 4 0 G → m 14 0 = (G.length : Int) → Fx [4, 14] m0 m → G.length + 16 * n ≤ 600 → agL G (sumP (l1.drop i) l2) = R →
    Runs (d + 1) call sc m_X4_takeSums Q 131 [(0, .ref 60), (1, .int (nI s)), (2, .int (nI t)), (3, .int (nI i))] [] h 0 0 := by
  have hl1 := hT1.2.2
  have hl2 := hT2.2.2
  intro n
  induction n with
  | zero =>
    intro i m h G hi hm r1 n1 f1 hl hp
    rw [List.drop_eq_nil_of_le (by omega)] at hp
    have hp : G = R := hp
    subst hp
    refine go hc 6 (fun K hK => ?_)
    conv => whnf
    refine ⟨_, hm.M, Nat.le_of_ble_eq_true rfl, ?_⟩
    conv => whnf
    refine callee hc (e_count hm (k := 4) rfl rfl hs (by omega) (hT1.eq (f1 2 (by decide)) (f1 3 (by decide))) ?_)
    conv => whnf
    refine ⟨fun c_ => ?_, fun c_ => absurd (nI_le (by omega) (by omega)) c_⟩
    conv => whnf
    refine hK _ _ _ _ _ _ (go hc 1 (fun K hK => ?_))
    conv => whnf
    exact hQ m h hm r1 n1 f1
  | succ n ih =>
    intro i m h G hi hm r1 n1 f1 hl hp
    have hil : i < l1.length := by omega
    rw [drop_gt hil] at hp
    unfold sumP at hp
    rw [List.flatMap_cons, agL_app] at hp
    have hp : agL (agL G (l2.map fun q => sumV (gt l1 i) q)) (sumP (l1.drop (i + 1)) l2) = R := hp
    have hal := agL_len (l2.map fun q => sumV (gt l1 i) q) G
    rw [List.length_map] at hal
    refine go hc 6 (fun K hK => ?_)
    conv => whnf
    refine ⟨_, hm.M, Nat.le_of_ble_eq_true rfl, ?_⟩
    conv => whnf
    refine callee hc (e_count hm (k := 4) rfl rfl hs (by omega) (hT1.eq (f1 2 (by decide)) (f1 3 (by decide))) ?_)
    conv => whnf
    refine ⟨fun c_ => absurd c_ (nI_ge hil (by omega)), fun c_ => ?_⟩
    conv => whnf
    refine hK _ _ _ _ _ _ (go hc 2 (fun K hK => ?_))
    conv => whnf
    try simp only [nI_1]
    refine hK _ _ _ _ _ _ (Runs.less hc [0, 1, 2, 3, 4] rfl rfl rfl rfl (tp_j hc hs ht hT1 hT2 hb1 hb2 hil (R := agL G (l2.map fun q => sumV (gt l1 i) q)) (fun m1 h1 hm1 r2 n2 f2 => ?_) l2.length 0 m h G (by omega) hm r1 n1 f1 (by omega) rfl))
    refine go hc 2 (fun K hK => ?_)
    conv => whnf
    try simp only [nI_1]
    refine hK _ _ _ _ _ _ (Runs.less hc [0, 1, 2, 3] rfl rfl rfl rfl (ih (i + 1) m1 h1 _ (by omega) hm1 r2 n2 f2 (by omega) hp))
theorem e_takeSums (hm : MR m D Z h) {s t : Nat} {X Y : Int32} (hX : X = nI s) (hY : Y = nI t) (hs : s < 4) (ht : t < 4) (hT : Tb m T) (hok : okT T) (hG : RW m 4 0 []) (hgn : m 14 0 = 0)
    (hQ : ∀ m' h', MR m' D Z h' → RW m' 4 0 (agL [] (tsL T s t)) → m' 14 0 = ((agL [] (tsL T s t)).length : Int) → Fx [4, 14] m m' → Q (.inl none) h') : wpC sc (d + 2) 129 [.ref 60, .int X, .int Y] h Q := by
  subst hX; subst hY
  have a2 := hT s 2 hs (by omega); have a3 := hT s 3 hs (by omega); have a4 := hT s 4 hs (by omega)
  have b2 := hT t 2 ht (by omega); have b3 := hT t 3 ht (by omega); have b4 := hT t 4 ht (by omega)
  have la2 := a2.2.2; have la3 := a3.2.2; have la4 := a4.2.2
  have lb2 := b2.2.2; have lb3 := b3.2.2; have lb4 := b4.2.2
  unfold tsL at hQ
  rw [agL_app, agL_app, agL_app, agL_app] at hQ
  have e2 : ∀ l, dKd 2 l = dLn l := fun l => if_pos rfl
  have e3 : ∀ l, dKd 3 l = dRn l := fun l => if_neg (by decide)
  have k1 := agL_len (dLn (T s 2)) []
  have k2 := agL_len (dLn (T t 2)) (agL [] (dLn (T s 2)))
  have k3 := agL_len (dRn (T s 3)) (agL (agL [] (dLn (T s 2))) (dLn (T t 2)))
  have k4 := agL_len (dRn (T t 3)) (agL (agL (agL [] (dLn (T s 2))) (dLn (T t 2))) (dRn (T s 3)))
  have j1 := dKd_len 2 (T s 2); have j2 := dKd_len 2 (T t 2); have j3 := dKd_len 3 (T s 3); have j4 := dKd_len 3 (T t 3)
  rw [e2] at j1 j2
  rw [e3] at j3 j4
  rw [List.length_nil] at k1
  refine enter rfl rfl (fun call hc => go hc 5 (fun K hK => ?_))
  conv => whnf
  refine ⟨fun c_ => absurd c_ (by decide), fun c_ => ?_⟩
  conv => whnf
  refine hK _ _ _ _ _ _ (go hc 5 (fun K hK => ?_))
  conv => whnf
  refine ⟨fun c_ => absurd c_ (by decide), fun c_ => ?_⟩
  conv => whnf
  refine hK _ _ _ _ _ _ (go hc 2 (fun K hK => ?_))
  conv => whnf
  refine ⟨fun c_ => ?_, fun c_ => absurd (rfl) c_⟩
  conv => whnf
  refine hK _ _ _ _ _ _ (go hc 2 (fun K hK => ?_))
  conv => whnf
  refine hK _ _ _ _ _ _ ?_
  refine go hc 3 (fun K hK => ?_)
  conv => whnf
  try simp only [nI_1]
  refine hK _ _ _ _ _ _ (Runs.less hc [0, 1, 2, 3, 4, 5, 6] rfl rfl rfl rfl (ts_in (Q := qth _ Q) hc hs (Or.inl rfl) a2 (hok s 2 hs (by omega)) (R := agL [] (dLn (T s 2))) rfl (fun m1 h1 hm1 r1 n1 f1 => ?_) (T s 2).length 0 m h [] (by omega) hm hG (by rw [hgn]; rfl) Fx.refl (by simp; omega) rfl))
  refine go hc 5 (fun K hK => ?_)
  conv => whnf
  refine ⟨fun c_ => absurd c_ (by decide), fun c_ => ?_⟩
  conv => whnf
  refine hK _ _ _ _ _ _ (go hc 2 (fun K hK => ?_))
  conv => whnf
  refine ⟨fun c_ => absurd c_ (by decide), fun c_ => ?_⟩
  conv => whnf
  refine hK _ _ _ _ _ _ ?_
  refine go hc 1 (fun K hK => ?_)
  conv => whnf
  refine hK _ _ _ _ _ _ ?_
  refine go hc 3 (fun K hK => ?_)
  conv => whnf
  try simp only [nI_1]
  refine hK _ _ _ _ _ _ (Runs.less hc [0, 1, 2, 3, 4, 5, 6] rfl rfl rfl rfl (ts_in (Q := qth _ Q) hc ht (k := 2) (Or.inl rfl) b2 (hok t 2 ht (by omega)) (R := agL (agL [] (dLn (T s 2))) (dLn (T t 2))) rfl (fun m2 h2 hm2 r2 n2 f2 => ?_) (T t 2).length 0 m1 h1 _ (by omega) hm1 r1 n1 f1 (by omega) rfl))
  refine go hc 5 (fun K hK => ?_)
  conv => whnf
  refine ⟨fun c_ => ?_, fun c_ => absurd (by decide) c_⟩
  conv => whnf
  refine hK _ _ _ _ _ _ ?_
  refine go hc 5 (fun K hK => ?_)
  conv => whnf
  refine ⟨fun c_ => absurd c_ (by decide), fun c_ => ?_⟩
  conv => whnf
  refine hK _ _ _ _ _ _ (go hc 5 (fun K hK => ?_))
  conv => whnf
  refine ⟨fun c_ => absurd c_ (by decide), fun c_ => ?_⟩
  conv => whnf
  refine hK _ _ _ _ _ _ (go hc 2 (fun K hK => ?_))
  conv => whnf
  refine ⟨fun c_ => ?_, fun c_ => absurd (rfl) c_⟩
  conv => whnf
  refine hK _ _ _ _ _ _ (go hc 2 (fun K hK => ?_))
  conv => whnf
  refine hK _ _ _ _ _ _ ?_
  refine go hc 3 (fun K hK => ?_)
  conv => whnf
  try simp only [nI_1]
  refine hK _ _ _ _ _ _ (Runs.less hc [0, 1, 2, 3, 4, 5, 6] rfl rfl rfl rfl (ts_in (Q := qth _ Q) hc hs (k := 3) (Or.inr rfl) a3 (hok s 3 hs (by omega)) (R := agL (agL (agL [] (dLn (T s 2))) (dLn (T t 2))) (dRn (T s 3))) rfl (fun m3 h3 hm3 r3 n3 f3 => ?_) (T s 3).length 0 m2 h2 _ (by omega) hm2 r2 n2 f2 (by omega) rfl))
  refine go hc 5 (fun K hK => ?_)
  conv => whnf
  refine ⟨fun c_ => absurd c_ (by decide), fun c_ => ?_⟩
  conv => whnf
  refine hK _ _ _ _ _ _ (go hc 2 (fun K hK => ?_))
  conv => whnf
  refine ⟨fun c_ => absurd c_ (by decide), fun c_ => ?_⟩
  conv => whnf
  refine hK _ _ _ _ _ _ ?_
  refine go hc 1 (fun K hK => ?_)
  conv => whnf
  refine hK _ _ _ _ _ _ ?_
  refine go hc 3 (fun K hK => ?_)
  conv => whnf
  try simp only [nI_1]
  refine hK _ _ _ _ _ _ (Runs.less hc [0, 1, 2, 3, 4, 5, 6] rfl rfl rfl rfl (ts_in (Q := qth _ Q) hc ht (k := 3) (Or.inr rfl) b3 (hok t 3 ht (by omega)) (R := agL (agL (agL (agL [] (dLn (T s 2))) (dLn (T t 2))) (dRn (T s 3))) (dRn (T t 3))) rfl (fun m4 h4 hm4 r4 n4 f4 => ?_) (T t 3).length 0 m3 h3 _ (by omega) hm3 r3 n3 f3 (by omega) rfl))
  refine go hc 5 (fun K hK => ?_)
  conv => whnf
  refine ⟨fun c_ => ?_, fun c_ => absurd (by decide) c_⟩
  conv => whnf
  refine hK _ _ _ _ _ _ ?_
  refine go hc 5 (fun K hK => ?_)
  conv => whnf
  refine ⟨fun c_ => ?_, fun c_ => absurd (by decide) c_⟩
  conv => whnf
  refine hK _ _ _ _ _ _ ?_
  refine go hc 2 (fun K hK => ?_)
  conv => whnf
  try simp only [nI_1]
  refine hK _ _ _ _ _ _ (Runs.less hc [0, 1, 2, 3] rfl rfl rfl rfl (tp_i (Q := qth _ Q) hc hs ht a4 b4 (hok s 4 hs (by omega)) (hok t 4 ht (by omega)) hQ (T s 4).length 0 m4 h4 _ (by omega) hm4 r4 n4 f4 (by omega) rfl))
end ESUMS
