/-! images and origins -/
def imgV (W : AW) (v : V3) : V3 := (v.1, nm W 0 * v.2.1 + nm W 1 * v.2.2 + nm W 4 * v.1, nm W 2 * v.2.1 + nm W 3 * v.2.2 + nm W 5 * v.1)
def orgV (W : AW) (v : V3) : V3 := (v.1 + v.2.1 * nm W 4 + v.2.2 * nm W 5, v.2.1 * nm W 0 + v.2.2 * nm W 2, v.2.1 * nm W 1 + v.2.2 * nm W 3)
def bothR (f : V3 → V3) (b : Int32) (l : List V3) : List V3 := l.flatMap fun v => if b = 0 then [f v] else [f v, neg3 (f v)]
theorem oI_3 (x y z : Int32) (a b c : Int) : x.toInt64 * Int64.ofInt a + y.toInt64 * Int64.ofInt b + z.toInt64 * Int64.ofInt c = Int64.ofInt (x.toInt * a + y.toInt * b + z.toInt * c) := by
  rw [i32l, i32l, i32l, Int64.ofInt_add, Int64.ofInt_add, Int64.ofInt_mul, Int64.ofInt_mul, Int64.ofInt_mul]
theorem oI_2 (x y : Int32) (a b : Int) : Int64.ofInt a * x.toInt64 + Int64.ofInt b * y.toInt64 = Int64.ofInt (a * x.toInt + b * y.toInt) := by
  rw [i32l, i32l, Int64.ofInt_add, Int64.ofInt_mul, Int64.ofInt_mul]
theorem oI_2' (x y : Int32) (a b c : Int) : Int64.ofInt c + Int64.ofInt a * x.toInt64 + Int64.ofInt b * y.toInt64 = Int64.ofInt (c + a * x.toInt + b * y.toInt) := by
  rw [i32l, i32l, Int64.ofInt_add, Int64.ofInt_add, Int64.ofInt_mul, Int64.ofInt_mul]
section MAPS
variable {sc : Scr} {d : Nat} {W : AW} {X h : PH} {u : Nat} {G : LE} {Q : Out → PH → Prop}
theorem im_loop {call : Callee} (hc : call = wpC sc (d + 4)) (hu : W.2.2.2.2.1 = u) (hu5 : u < 5) {j : Nat} {b : Int32} (hj : j < 20) (hju : j / 4 ≠ u) (hl48 : (W.1 j).length ≤ 48) {F : LE}
    (hQ : ∀ h, RepS (sS W u (F, G)) X h → Q (.inl none) h) :
    ∀ (n i : Nat) (s : LE) (h : PH), i + n = (W.1 j).length → RepS (sS W u (s, G)) X h → okR s (bothR (imgV W) b ((W.1 j).drop i)) → cutA s (bothR (imgV W) b ((W.1 j).drop i)) = F →
    Runs (d + 4) call sc m_X3_cutByImagesOf Q 2 [(0, .ref 0), (1, .ref (rid j)), (2, .int b), (3, .int (nI i))] [] h 0 0 := by
  have e1 : ∀ S, (sS W u S).1 j = W.1 j := fun S => sS_ne _ _ hju
  intro n
  induction n with
  | zero =>
    intro i s h hi hr hok hF
    rw [List.drop_eq_nil_of_le (by omega)] at hok hF
    refine go hc 4 (fun K hK => ?_)
    conv => whnf
    refine ⟨_, hr.R _ (by omega), Nat.le_of_ble_eq_true rfl, ?_⟩
    conv => whnf
    refine callee hc (s_count hr (by omega) ?_)
    conv => whnf
    rw [e1]
    refine ⟨fun c_ => ?_, fun c_ => absurd (nI_le (by omega) (by omega)) c_⟩
    conv => whnf
    refine hK _ _ _ _ _ _ (go hc 1 (fun K hK => ?_))
    conv => whnf
    exact hQ h (by rw [← hF]; exact hr)
  | succ n ih =>
    intro i s h hi hr hok hF
    have hil : i < (W.1 j).length := by omega
    have i1 : ∀ S, i < ((sS W u S).1 j).length := fun S => by rw [e1]; exact hil
    rw [drop_gt hil] at hok hF
    unfold bothR at hok hF
    rw [List.flatMap_cons] at hok hF
    generalize hv : gt (W.1 j) i = v at hok hF
    have o1 : okR s [imgV W v] := by
      by_cases hb : b = 0
      · rw [if_pos hb] at hok; exact ⟨hok.1, hok.2.1, hok.2.2.ok⟩
      · rw [if_neg hb] at hok; exact ⟨hok.1, hok.2.1, hok.2.2.1⟩
    refine go hc 4 (fun K hK => ?_)
    conv => whnf
    refine ⟨_, hr.R _ (by omega), Nat.le_of_ble_eq_true rfl, ?_⟩
    conv => whnf
    refine callee hc (s_count hr (by omega) ?_)
    conv => whnf
    rw [e1]
    refine ⟨fun c_ => absurd c_ (nI_ge (by omega) (by omega)), fun c_ => ?_⟩
    conv => whnf
    refine hK _ _ _ _ _ _ (go hc 72 (fun K hK => ?_))
    conv => whnf
    refine ⟨_, hr.R _ (by omega), Nat.le_of_ble_eq_true rfl, ?_⟩
    conv => whnf
    refine callee hc (s_at0 hr (by omega) (i1 _) ?_)
    rw [e1, hv]
    conv => whnf
    refine ⟨_, hr.R _ (by omega), Nat.le_of_ble_eq_true rfl, ?_⟩
    conv => whnf
    refine callee hc (s_at1 hr (by omega) (i1 _) ?_)
    rw [e1, hv]
    conv => whnf
    refine ⟨_, hr.R _ (by omega), Nat.le_of_ble_eq_true rfl, ?_⟩
    conv => whnf
    refine callee hc (s_at2 hr (by omega) (i1 _) ?_)
    rw [e1, hv]
    conv => whnf
    refine ⟨_, _, hr.Du hu, rfl, ?_⟩
    conv => whnf
    refine Or.inr ⟨_, _, hr.N, vn0, ?_⟩
    rw [n0]
    conv => whnf
    refine ⟨_, _, hr.Du hu, rfl, ?_⟩
    conv => whnf
    refine Or.inr ⟨_, _, hr.N, vn1, ?_⟩
    rw [n1]
    conv => whnf
    refine ⟨_, _, hr.Du hu, rfl, ?_⟩
    conv => whnf
    refine Or.inr ⟨_, _, hr.N, vn4, ?_⟩
    rw [n4]
    conv => whnf
    refine ⟨_, _, hr.Du hu, rfl, ?_⟩
    conv => whnf
    refine Or.inr ⟨_, _, hr.N, vn2, ?_⟩
    rw [n2]
    conv => whnf
    refine ⟨_, _, hr.Du hu, rfl, ?_⟩
    conv => whnf
    refine Or.inr ⟨_, _, hr.N, vn3, ?_⟩
    rw [n3]
    conv => whnf
    refine ⟨_, _, hr.Du hu, rfl, ?_⟩
    conv => whnf
    refine Or.inr ⟨_, _, hr.N, vn5, ?_⟩
    rw [n5]
    conv => whnf
    refine ⟨_, _, hr.Du hu, rfl, ?_⟩
    conv => whnf
    refine ⟨_, _, hr.S _ (by omega), rfl, ?_⟩
    conv => whnf
    refine ⟨_, hr.C _ (by omega), Nat.le_of_ble_eq_true rfl, ?_⟩
    conv => whnf
    refine callee hc (s_cutK hr hu5 (imgV W v) rfl (oI_3 _ _ _ _ _ _) (oI_3 _ _ _ _ _ _) o1 ?_)
    intro h hr
    conv => whnf
    by_cases hb : b = 0
    · rw [if_pos hb] at hok hF
      refine ⟨fun c_ => ?_, fun c_ => absurd (hb) c_⟩
      conv => whnf
      refine hK _ _ _ _ _ _ (go hc 2 (fun K hK => ?_))
      conv => whnf
      try simp only [nI_1]
      refine hK _ _ _ _ _ _ (Runs.less hc [0, 1, 2, 3] rfl rfl rfl rfl (ih _ _ _ (by omega) hr hok.2.2 hF))
    · rw [if_neg hb] at hok hF
      have ok' : okR s (imgV W v :: neg3 (imgV W v) :: bothR (imgV W) b ((W.1 j).drop (i + 1))) := hok
      refine ⟨fun c_ => absurd c_ (hb), fun c_ => ?_⟩
      conv => whnf
      refine hK _ _ _ _ _ _ (go hc 12 (fun K hK => ?_))
      conv => whnf
      refine ⟨_, _, hr.Du hu, rfl, ?_⟩
      conv => whnf
      refine ⟨_, _, hr.S _ (by omega), rfl, ?_⟩
      conv => whnf
      refine ⟨_, hr.C _ (by omega), Nat.le_of_ble_eq_true rfl, ?_⟩
      conv => whnf
      refine callee hc (s_cutK hr hu5 (neg3 (imgV W v)) (Int64.ofInt_neg _).symm (by rw [oI_3]; exact (Int64.ofInt_neg _).symm) (by rw [oI_3]; exact (Int64.ofInt_neg _).symm) ⟨ok'.2.2.1, ok'.2.2.2.1, ok'.2.2.2.2.ok⟩ ?_)
      intro h hr
      conv => whnf
      try simp only [nI_1]
      refine hK _ _ _ _ _ _ (Runs.less hc [0, 1, 2, 3] rfl rfl rfl rfl (ih _ _ _ (by omega) hr ok'.2.2.2.2 hF))
theorem s_imagesOf {S0 : SH} (hr : RepS (sS W u S0) X h) (hu : W.2.2.2.2.1 = u) (hu5 : u < 5) {j : Nat} {b : Int32} (hj : j < 20) (hju : j / 4 ≠ u) (hok : okR S0.1 (bothR (imgV W) b (W.1 j)))
    (hQ : ∀ h, RepS (sS W u (cutA S0.1 (bothR (imgV W) b (W.1 j)), S0.2)) X h → Q (.inl none) h) : wpC sc (d + 5) 65 [.ref 0, .ref (rid j), .int b] h Q := by
  have k1 := hr.c48 hj
  rw [sS_ne _ _ hju] at k1
  refine enter rfl rfl (fun call hc => go hc 2 (fun K hK => ?_))
  conv => whnf
  try simp only [nI_1]
  refine hK _ _ _ _ _ _ (Runs.less hc [0, 1, 2, 3] rfl rfl rfl rfl (im_loop (Q := qth _ Q) hc hu hu5 hj hju k1 hQ (W.1 j).length 0 S0.1 h (by omega) hr hok rfl))
theorem og_loop {call : Callee} (hc : call = wpC sc (d + 4)) (hu : W.2.2.2.2.1 = u) (hu5 : u < 5) {j : Nat} {b : Int32} (hj : j < 20) (hju : j / 4 ≠ u) (hl48 : (W.1 j).length ≤ 48) {F : LE}
    (hQ : ∀ h, RepS (sS W u (G, F)) X h → Q (.inl none) h) :
    ∀ (n i : Nat) (s : LE) (h : PH), i + n = (W.1 j).length → RepS (sS W u (G, s)) X h → okR s (bothR (orgV W) b ((W.1 j).drop i)) → cutA s (bothR (orgV W) b ((W.1 j).drop i)) = F →
    Runs (d + 4) call sc m_X3_cutByOriginsOf Q 2 [(0, .ref 0), (1, .ref (rid j)), (2, .int b), (3, .int (nI i))] [] h 0 0 := by
  have e1 : ∀ S, (sS W u S).1 j = W.1 j := fun S => sS_ne _ _ hju
  intro n
  induction n with
  | zero =>
    intro i s h hi hr hok hF
    rw [List.drop_eq_nil_of_le (by omega)] at hok hF
    refine go hc 4 (fun K hK => ?_)
    conv => whnf
    refine ⟨_, hr.R _ (by omega), Nat.le_of_ble_eq_true rfl, ?_⟩
    conv => whnf
    refine callee hc (s_count hr (by omega) ?_)
    conv => whnf
    rw [e1]
    refine ⟨fun c_ => ?_, fun c_ => absurd (nI_le (by omega) (by omega)) c_⟩
    conv => whnf
    refine hK _ _ _ _ _ _ (go hc 1 (fun K hK => ?_))
    conv => whnf
    exact hQ h (by rw [← hF]; exact hr)
  | succ n ih =>
    intro i s h hi hr hok hF
    have hil : i < (W.1 j).length := by omega
    have i1 : ∀ S, i < ((sS W u S).1 j).length := fun S => by rw [e1]; exact hil
    rw [drop_gt hil] at hok hF
    unfold bothR at hok hF
    rw [List.flatMap_cons] at hok hF
    generalize hv : gt (W.1 j) i = v at hok hF
    have o1 : okR s [orgV W v] := by
      by_cases hb : b = 0
      · rw [if_pos hb] at hok; exact ⟨hok.1, hok.2.1, hok.2.2.ok⟩
      · rw [if_neg hb] at hok; exact ⟨hok.1, hok.2.1, hok.2.2.1⟩
    refine go hc 4 (fun K hK => ?_)
    conv => whnf
    refine ⟨_, hr.R _ (by omega), Nat.le_of_ble_eq_true rfl, ?_⟩
    conv => whnf
    refine callee hc (s_count hr (by omega) ?_)
    conv => whnf
    rw [e1]
    refine ⟨fun c_ => absurd c_ (nI_ge (by omega) (by omega)), fun c_ => ?_⟩
    conv => whnf
    refine hK _ _ _ _ _ _ (go hc 72 (fun K hK => ?_))
    conv => whnf
    refine ⟨_, hr.R _ (by omega), Nat.le_of_ble_eq_true rfl, ?_⟩
    conv => whnf
    refine callee hc (s_at1 hr (by omega) (i1 _) ?_)
    rw [e1, hv]
    conv => whnf
    refine ⟨_, hr.R _ (by omega), Nat.le_of_ble_eq_true rfl, ?_⟩
    conv => whnf
    refine callee hc (s_at2 hr (by omega) (i1 _) ?_)
    rw [e1, hv]
    conv => whnf
    refine ⟨_, hr.R _ (by omega), Nat.le_of_ble_eq_true rfl, ?_⟩
    conv => whnf
    refine callee hc (s_at0 hr (by omega) (i1 _) ?_)
    rw [e1, hv]
    conv => whnf
    refine ⟨_, _, hr.Du hu, rfl, ?_⟩
    conv => whnf
    refine Or.inr ⟨_, _, hr.N, vn4, ?_⟩
    rw [n4]
    conv => whnf
    refine ⟨_, _, hr.Du hu, rfl, ?_⟩
    conv => whnf
    refine Or.inr ⟨_, _, hr.N, vn5, ?_⟩
    rw [n5]
    conv => whnf
    refine ⟨_, _, hr.Du hu, rfl, ?_⟩
    conv => whnf
    refine Or.inr ⟨_, _, hr.N, vn0, ?_⟩
    rw [n0]
    conv => whnf
    refine ⟨_, _, hr.Du hu, rfl, ?_⟩
    conv => whnf
    refine Or.inr ⟨_, _, hr.N, vn2, ?_⟩
    rw [n2]
    conv => whnf
    refine ⟨_, _, hr.Du hu, rfl, ?_⟩
    conv => whnf
    refine Or.inr ⟨_, _, hr.N, vn1, ?_⟩
    rw [n1]
    conv => whnf
    refine ⟨_, _, hr.Du hu, rfl, ?_⟩
    conv => whnf
    refine Or.inr ⟨_, _, hr.N, vn3, ?_⟩
    rw [n3]
    conv => whnf
    refine ⟨_, _, hr.Du hu, rfl, ?_⟩
    conv => whnf
    refine ⟨_, _, hr.S _ (by omega), rfl, ?_⟩
    conv => whnf
    refine ⟨_, hr.C _ (by omega), Nat.le_of_ble_eq_true rfl, ?_⟩
    conv => whnf
    refine callee hc (s_cutG hr hu5 (orgV W v) (oI_2' _ _ _ _ _) (oI_2 _ _ _ _) (oI_2 _ _ _ _) o1 ?_)
    intro h hr
    conv => whnf
    by_cases hb : b = 0
    · rw [if_pos hb] at hok hF
      refine ⟨fun c_ => ?_, fun c_ => absurd (hb) c_⟩
      conv => whnf
      refine hK _ _ _ _ _ _ (go hc 2 (fun K hK => ?_))
      conv => whnf
      try simp only [nI_1]
      refine hK _ _ _ _ _ _ (Runs.less hc [0, 1, 2, 3] rfl rfl rfl rfl (ih _ _ _ (by omega) hr hok.2.2 hF))
    · rw [if_neg hb] at hok hF
      have ok' : okR s (orgV W v :: neg3 (orgV W v) :: bothR (orgV W) b ((W.1 j).drop (i + 1))) := hok
      refine ⟨fun c_ => absurd c_ (hb), fun c_ => ?_⟩
      conv => whnf
      refine hK _ _ _ _ _ _ (go hc 12 (fun K hK => ?_))
      conv => whnf
      refine ⟨_, _, hr.Du hu, rfl, ?_⟩
      conv => whnf
      refine ⟨_, _, hr.S _ (by omega), rfl, ?_⟩
      conv => whnf
      refine ⟨_, hr.C _ (by omega), Nat.le_of_ble_eq_true rfl, ?_⟩
      conv => whnf
      refine callee hc (s_cutG hr hu5 (neg3 (orgV W v)) (by rw [oI_2']; exact (Int64.ofInt_neg _).symm) (by rw [oI_2]; exact (Int64.ofInt_neg _).symm) (by rw [oI_2]; exact (Int64.ofInt_neg _).symm) ⟨ok'.2.2.1, ok'.2.2.2.1, ok'.2.2.2.2.ok⟩ ?_)
      intro h hr
      conv => whnf
      try simp only [nI_1]
      refine hK _ _ _ _ _ _ (Runs.less hc [0, 1, 2, 3] rfl rfl rfl rfl (ih _ _ _ (by omega) hr ok'.2.2.2.2 hF))
theorem s_originsOf {S0 : SH} (hr : RepS (sS W u S0) X h) (hu : W.2.2.2.2.1 = u) (hu5 : u < 5) {j : Nat} {b : Int32} (hj : j < 20) (hju : j / 4 ≠ u) (hok : okR S0.2 (bothR (orgV W) b (W.1 j)))
    (hQ : ∀ h, RepS (sS W u (S0.1, cutA S0.2 (bothR (orgV W) b (W.1 j)))) X h → Q (.inl none) h) : wpC sc (d + 5) 67 [.ref 0, .ref (rid j), .int b] h Q := by
  have k1 := hr.c48 hj
  rw [sS_ne _ _ hju] at k1
  refine enter rfl rfl (fun call hc => go hc 2 (fun K hK => ?_))
  conv => whnf
  try simp only [nI_1]
  refine hK _ _ _ _ _ _ (Runs.less hc [0, 1, 2, 3] rfl rfl rfl rfl (og_loop (Q := qth _ Q) hc hu hu5 hj hju k1 hQ (W.1 j).length 0 S0.2 h (by omega) hr hok rfl))
/-- what a map cuts by -/
def imR (W : AW) (S : SH) : List V3 := bothR (imgV W) 1 S.2.1 ++ bothR (imgV W) 0 S.2.2
def ogR (W : AW) (S : SH) : List V3 := bothR (orgV W) 1 S.1.1 ++ bothR (orgV W) 0 S.1.2
def og0 (S : SH) : LE := if S.2.2 = [] then ([], []) else pl0
theorem s_images {S0 : SH} (hr : RepS (sS W u S0) X h) (hu : W.2.2.2.2.1 = u) (hu5 : u < 5) {t : Nat} (ht : t < 5) (hn : u ≠ t) (hok : okR (e3, []) (imR W (gS W t)))
    (hQ : ∀ h, RepS (sS W u (cutA (e3, []) (imR W (gS W t)), S0.2)) X h → Q (.inl none) h) : wpC sc (d + 6) 64 [.ref 0, .ref (sid t)] h Q := by
  have k1 := okR_app hok
  unfold imR at hQ
  rw [cutA_app] at hQ
  refine enter rfl rfl (fun call hc => go hc 17 (fun K hK => ?_))
  conv => whnf
  refine ⟨_, _, hr.Du hu, rfl, ?_⟩
  conv => whnf
  refine ⟨_, _, hr.S _ (by omega), rfl, ?_⟩
  conv => whnf
  refine ⟨_, hr.C _ (by omega), Nat.le_of_ble_eq_true rfl, ?_⟩
  conv => whnf
  refine callee hc (s_allK hr hu5 ?_)
  intro h hr
  conv => whnf
  refine ⟨_, _, hr.S _ (by omega), rfl, ?_⟩
  conv => whnf
  refine ⟨_, _, hr.C _ (by omega), rfl, ?_⟩
  conv => whnf
  refine ⟨_, hr.Du hu, Nat.le_of_ble_eq_true rfl, ?_⟩
  conv => whnf
  refine callee hc (s_imagesOf hr hu hu5 (j := 2 * (2 * t + 1)) (by omega) (by omega) k1.1 ?_)
  intro h hr
  conv => whnf
  refine ⟨_, _, hr.S _ (by omega), rfl, ?_⟩
  conv => whnf
  refine ⟨_, _, hr.C _ (by omega), rfl, ?_⟩
  conv => whnf
  refine ⟨_, hr.Du hu, Nat.le_of_ble_eq_true rfl, ?_⟩
  conv => whnf
  refine callee hc (s_imagesOf hr hu hu5 (j := 2 * (2 * t + 1) + 1) (by omega) (by omega) k1.2 ?_)
  intro h hr
  conv => whnf
  exact hQ h hr
theorem s_origins {S0 : SH} (hr : RepS (sS W u S0) X h) (hu : W.2.2.2.2.1 = u) (hu5 : u < 5) {t : Nat} (ht : t < 5) (hn : u ≠ t) (hok : okR (og0 (gS W t)) (ogR W (gS W t)))
    (hQ : ∀ h, RepS (sS W u (S0.1, cutA (og0 (gS W t)) (ogR W (gS W t)))) X h → Q (.inl none) h) : wpC sc (d + 6) 66 [.ref 0, .ref (sid t)] h Q := by
  have k1 := okR_app hok
  have e1 : ∀ S, (sS W u S).1 (2 * (2 * t + 1) + 1) = W.1 (2 * (2 * t + 1) + 1) := fun S => sS_ne _ _ (by omega)
  unfold ogR at hQ
  rw [cutA_app] at hQ
  unfold og0 at hQ k1
  refine enter rfl rfl (fun call hc => go hc 7 (fun K hK => ?_))
  conv => whnf
  refine ⟨_, _, hr.Du hu, rfl, ?_⟩
  conv => whnf
  refine ⟨_, _, hr.S _ (by omega), rfl, ?_⟩
  conv => whnf
  refine ⟨_, hr.C _ (by omega), Nat.le_of_ble_eq_true rfl, ?_⟩
  conv => whnf
  refine callee hc (s_plG hr hu5 ?_)
  intro h hr
  conv => whnf
  refine ⟨_, hr.S _ (by omega), Nat.le_of_ble_eq_true rfl, ?_⟩
  conv => whnf
  refine callee hc (s_isEmpty hr ht ?_)
  rw [e1]
  conv => whnf
  by_cases c1 : W.1 (2 * (2 * t + 1) + 1) = []
  · have c1' : (gS W t).2.2 = [] := c1
    rw [if_pos c1'] at hQ k1
    rw [decide_eq_true c1]
    refine ⟨fun c_ => absurd c_ (by decide), fun c_ => ?_⟩
    conv => whnf
    refine hK _ _ _ _ _ _ (go hc 4 (fun K hK => ?_))
    conv => whnf
    refine ⟨_, _, hr.Du hu, rfl, ?_⟩
    conv => whnf
    refine ⟨_, _, hr.S _ (by omega), rfl, ?_⟩
    conv => whnf
    refine ⟨_, hr.C _ (by omega), Nat.le_of_ble_eq_true rfl, ?_⟩
    conv => whnf
    refine callee hc (s_cclear hr (by omega) ?_)
    intro h hr
    rw [sC_sS_g] at hr
    conv => whnf
    refine hK _ _ _ _ _ _ ?_
    refine go hc 13 (fun K hK => ?_)
    conv => whnf
    refine ⟨_, _, hr.S _ (by omega), rfl, ?_⟩
    conv => whnf
    refine ⟨_, _, hr.C _ (by omega), rfl, ?_⟩
    conv => whnf
    refine ⟨_, hr.Du hu, Nat.le_of_ble_eq_true rfl, ?_⟩
    conv => whnf
    refine callee hc (s_originsOf hr hu hu5 (j := 2 * (2 * t)) (by omega) (by omega) k1.1 ?_)
    intro h hr
    conv => whnf
    refine ⟨_, _, hr.S _ (by omega), rfl, ?_⟩
    conv => whnf
    refine ⟨_, _, hr.C _ (by omega), rfl, ?_⟩
    conv => whnf
    refine ⟨_, hr.Du hu, Nat.le_of_ble_eq_true rfl, ?_⟩
    conv => whnf
    refine callee hc (s_originsOf hr hu hu5 (j := 2 * (2 * t) + 1) (by omega) (by omega) k1.2 ?_)
    intro h hr
    conv => whnf
    exact hQ h hr
  · have c1' : ¬ (gS W t).2.2 = [] := c1
    rw [if_neg c1'] at hQ k1
    rw [decide_eq_false c1]
    refine ⟨fun c_ => ?_, fun c_ => absurd (rfl) c_⟩
    conv => whnf
    refine hK _ _ _ _ _ _ ?_
    refine go hc 13 (fun K hK => ?_)
    conv => whnf
    refine ⟨_, _, hr.S _ (by omega), rfl, ?_⟩
    conv => whnf
    refine ⟨_, _, hr.C _ (by omega), rfl, ?_⟩
    conv => whnf
    refine ⟨_, hr.Du hu, Nat.le_of_ble_eq_true rfl, ?_⟩
    conv => whnf
    refine callee hc (s_originsOf hr hu hu5 (j := 2 * (2 * t)) (by omega) (by omega) k1.1 ?_)
    intro h hr
    conv => whnf
    refine ⟨_, _, hr.S _ (by omega), rfl, ?_⟩
    conv => whnf
    refine ⟨_, _, hr.C _ (by omega), rfl, ?_⟩
    conv => whnf
    refine ⟨_, hr.Du hu, Nat.le_of_ble_eq_true rfl, ?_⟩
    conv => whnf
    refine callee hc (s_originsOf hr hu hu5 (j := 2 * (2 * t) + 1) (by omega) (by omega) k1.2 ?_)
    intro h hr
    conv => whnf
    exact hQ h hr
end MAPS
