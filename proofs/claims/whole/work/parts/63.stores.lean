/-! storing -/
def mid (M : Nat → List V3) (k : Nat) : Nat → List V3 := fun j => if j < k then srd j (M j) else M j
/-- slot s is stored up to kind k -/
def Sto (m : MM) (T : Tab) (s : Nat) (M : Nat → List V3) (k : Nat) : Prop := Mk m (mid M k) ∧ (∀ k', k' < k → k' < 5 → TB m s k' (srd k' (M k'))) ∧ ∀ s' k', s' < 4 → s' ≠ s → k' < 5 → TB m s' k' (T s' k')
theorem mid_up (M : Nat → List V3) (k : Nat) : va_up (mid M k) k (srd k (M k)) = mid M (k + 1) := by
  funext j
  unfold mid
  by_cases c : j = k
  · rw [c, va_up_self, if_pos (by omega)]
  · rw [va_up_ne _ _ c]
    by_cases c2 : j < k
    · rw [if_pos c2, if_pos (by omega)]
    · rw [if_neg c2, if_neg (by omega)]
theorem mid_at (M : Nat → List V3) (k : Nat) : mid M k k = M k := if_neg (by omega)
section ESTO
variable {sc : Scr} {d : Nat} {m : MM} {D Z h : PH} {Q : Out → PH → Prop} {l : List V3} {M : Nat → List V3} {T : Tab}
theorem cpy_loop {call : Callee} (hc : call = wpC sc (d + 1)) {m0 : MM} {s k : Nat} (hs : s < 4) (hk : k < 5) (hcnt : m0 10 k = (l.length : Int)) (hl : l.length ≤ 16) {F : Int32}
    (hQ : ∀ m' h', MR m' D Z h' → (∀ j, j < 3 * l.length → m' 3 (48 * (5 * s + k) + j) = m0 11 (1800 * k + j)) → (∀ x, (x < 48 * (5 * s + k) ∨ 48 * (5 * s + k) + 48 ≤ x) → m' 3 x = m0 3 x) → Fx [3] m0 m' → Runs (d + 1) call sc m_X4_store Q 101 [(0, .ref 60), (1, .int (nI s)), (2, .int F), (3, .int (nI k))] [] h' 0 0) :
    ∀ (n i : Nat) (m : MM) (h : PH), i + n = 3 * l.length → MR m D Z h → (∀ j, j < i → m 3 (48 * (5 * s + k) + j) = m0 11 (1800 * k + j)) → (∀ x, (x < 48 * (5 * s + k) ∨ 48 * (5 * s + k) + 48 ≤ x) → m 3 x = m0 3 x) → Fx [3] m0 m → Runs (d + 1) call sc m_X4_store Q 52 [(0, .ref 60), (1, .int (nI s)), (2, .int F), (3, .int (nI k)), (4, .int (nI i))] [] h 0 0 := by
  intro n
  induction n with
  | zero =>
    intro i m h hi hm hj ho hf
    have e10 : mI m 10 k = nI l.length := by unfold mI; rw [hf 10 (by decide), hcnt]; rfl
    refine go hc 8 (fun K hK => ?_)
    conv => whnf
    refine ⟨_, _, hm.M, rfl, ?_⟩
    conv => whnf
    refine Or.inr ⟨_, _, hm.I10, ixv (k := k) ((rfl : nI (k) = nI (k))) (by omega) (Nat.le_of_ble_eq_true rfl), ?_⟩
    rw [ixc (k := k) ((rfl : nI (k) = nI (k))) (by omega)]
    conv => whnf
    rw [e10, show (3 : Int32) = nI 3 from rfl, pk_mul]
    refine ⟨fun c_ => ?_, fun c_ => absurd (nI_le (by omega) (by omega)) c_⟩
    conv => whnf
    try simp only [nI_1]
    refine hK _ _ _ _ _ _ (Runs.less hc [0, 1, 2, 3] rfl rfl rfl rfl (hQ m h hm (fun j h => hj j (by omega)) ho hf))
  | succ n ih =>
    intro i m h hi hm hj ho hf
    have e10 : mI m 10 k = nI l.length := by unfold mI; rw [hf 10 (by decide), hcnt]; rfl
    refine go hc 8 (fun K hK => ?_)
    conv => whnf
    refine ⟨_, _, hm.M, rfl, ?_⟩
    conv => whnf
    refine Or.inr ⟨_, _, hm.I10, ixv (k := k) ((rfl : nI (k) = nI (k))) (by omega) (Nat.le_of_ble_eq_true rfl), ?_⟩
    rw [ixc (k := k) ((rfl : nI (k) = nI (k))) (by omega)]
    conv => whnf
    rw [e10, show (3 : Int32) = nI 3 from rfl, pk_mul]
    refine ⟨fun c_ => absurd c_ (nI_ge (by omega) (by omega)), fun c_ => ?_⟩
    conv => whnf
    refine hK _ _ _ _ _ _ (go hc 22 (fun K hK => ?_))
    conv => whnf
    refine ⟨_, _, hm.M, rfl, ?_⟩
    conv => whnf
    refine ⟨_, hm.M, Nat.le_of_ble_eq_true rfl, ?_⟩
    conv => whnf
    refine callee hc (e_at (s := s) (k := k) (i := 0) rfl rfl rfl ?_)
    conv => whnf
    refine ⟨_, _, hm.M, rfl, ?_⟩
    conv => whnf
    refine ⟨_, hm.M, Nat.le_of_ble_eq_true rfl, ?_⟩
    conv => whnf
    refine callee hc (e_place (k := k) (i := 0) rfl rfl ?_)
    conv => whnf
    refine ⟨_, _, hm.L11, ixv (k := (1800 * k + 3 * 0) + (i)) (ia ((rfl : nI (1800 * k + 3 * 0) = nI (1800 * k + 3 * 0))) ((rfl : nI (i) = nI (i)))) (by omega) (Nat.le_of_ble_eq_true rfl), ?_⟩
    rw [ixc (k := (1800 * k + 3 * 0) + (i)) (ia ((rfl : nI (1800 * k + 3 * 0) = nI (1800 * k + 3 * 0))) ((rfl : nI (i) = nI (i)))) (by omega)]
    conv => whnf
    refine ⟨_, _, hm.I3, ixv (k := (48 * (5 * s + k) + 3 * 0) + (i)) (ia ((rfl : nI (48 * (5 * s + k) + 3 * 0) = nI (48 * (5 * s + k) + 3 * 0))) ((rfl : nI (i) = nI (i)))) (by omega) (Nat.le_of_ble_eq_true rfl), ?_⟩
    rw [ixc (k := (48 * (5 * s + k) + 3 * 0) + (i)) (ia ((rfl : nI (48 * (5 * s + k) + 3 * 0) = nI (48 * (5 * s + k) + 3 * 0))) ((rfl : nI (i) = nI (i)))) (by omega)]
    replace hm := hm.sI (a := 3) (i := (48 * (5 * s + k) + 3 * 0) + (i)) (by decide) ((show (mL m 11 (1800 * k + 3 * 0 + i)).toInt32 = Int32.ofInt (m 11 (1800 * k + i)) from Int64.toInt32_ofInt))
    generalize hg : mu m 3 _ _ = m1 at hm
    conv => whnf
    have hj' : ∀ j, j < i + 1 → m1 3 (48 * (5 * s + k) + j) = m0 11 (1800 * k + j) := fun j hlt => by
      rw [← hg]
      by_cases c : j = i
      · rw [c, show 48 * (5 * s + k) + 3 * 0 + i = 48 * (5 * s + k) + i from rfl, mu_at, hf 11 (by decide)]
      · rw [mu_at_ne _ _ _ (by omega)]; exact hj j (by omega)
    have ho' : ∀ x, (x < 48 * (5 * s + k) ∨ 48 * (5 * s + k) + 48 ≤ x) → m1 3 x = m0 3 x := fun x hx => by
      rw [← hg, mu_at_ne _ _ _ (by omega)]; exact ho x hx
    try simp only [nI_1]
    refine hK _ _ _ _ _ _ (Runs.less hc [0, 1, 2, 3, 4] rfl rfl rfl rfl (ih (i + 1) m1 _ (by omega) hm hj' ho' (by rw [← hg]; exact hf.mu (by decide))))
/-- one kind -/
theorem st_kind {call : Callee} (hc : call = wpC sc (d + 2)) {m0 : MM} {s k : Nat} {X F : Int32} (hX : X = nI k) (hs : s < 4) (hk : k < 5) (hb : ∀ v ∈ M k, bdV 30 v) (hl : (M k).length ≤ 16)
    (hQ : ∀ m' h', MR m' D Z h' → Sto m' T s M (k + 1) → Fx [2, 3, 11] m0 m' → Runs (d + 2) call sc m_X4_store Q 101 [(0, .ref 60), (1, .int (nI s)), (2, .int F), (3, .int X)] [] h' 0 0)
    (hm : MR m D Z h) (hS : Sto m T s M k) (hf : Fx [2, 3, 11] m0 m) : Runs (d + 2) call sc m_X4_store Q 13 [(0, .ref 60), (1, .int (nI s)), (2, .int F), (3, .int X)] [] h 0 0 := by
  subst hX
  have n33 : ∀ m1 h1, MR m1 D Z h1 → Mk m1 (mid M (k + 1)) → Fx [11] m m1 → Runs (d + 2) call sc m_X4_store Q 33 [(0, .ref 60), (1, .int (nI s)), (2, .int F), (3, .int (nI k))] [] h1 0 0 := by
    intro m1 h1 hm M1 f1
    have hMk := M1 k hk
    have emid : mid M (k + 1) k = srd k (M k) := if_pos (by omega)
    rw [emid] at hMk
    have hsl := srd_len k (M k)
    have e10 : mI m1 10 k = Int32.ofInt ((srd k (M k)).length : Int) := by unfold mI; rw [hMk.1]
    refine go hc 14 (fun K hK => ?_)
    conv => whnf
    refine ⟨_, _, hm.M, rfl, ?_⟩
    conv => whnf
    refine ⟨_, _, hm.M, rfl, ?_⟩
    conv => whnf
    refine Or.inr ⟨_, _, hm.I10, ixv (k := k) ((rfl : nI (k) = nI (k))) (by omega) (Nat.le_of_ble_eq_true rfl), ?_⟩
    rw [ixc (k := k) ((rfl : nI (k) = nI (k))) (by omega)]
    conv => whnf
    refine ⟨_, _, hm.I2, ixv (k := ((5) * (s)) + (k)) (ia (im ((rfl : (5 : Int32) = nI 5)) ((rfl : nI (s) = nI (s)))) ((rfl : nI (k) = nI (k)))) (by omega) (Nat.le_of_ble_eq_true rfl), ?_⟩
    rw [ixc (k := ((5) * (s)) + (k)) (ia (im ((rfl : (5 : Int32) = nI 5)) ((rfl : nI (s) = nI (s)))) ((rfl : nI (k) = nI (k)))) (by omega)]
    replace hm := hm.sI (a := 2) (i := ((5) * (s)) + (k)) (by decide) (e10)
    generalize hg : mu m1 2 (5 * s + k) _ = m2 at hm
    conv => whnf
    have f12 : Fx [2] m1 m2 := by rw [← hg]; exact Fx.refl.mu (by decide)
    have e2 : m2 2 (5 * s + k) = ((srd k (M k)).length : Int) := by rw [← hg, mu_at]
    have o2 : ∀ x, x ≠ 5 * s + k → m2 2 x = m1 2 x := fun x hx => by rw [← hg, mu_at_ne _ _ _ hx]
    try simp only [nI_1]
    refine hK _ _ _ _ _ _ (Runs.less hc [0, 1, 2, 3, 4] rfl rfl rfl rfl (cpy_loop hc (m0 := m2) (l := srd k (M k)) hs hk (by rw [f12 10 (by decide)]; exact hMk.1) (by omega) (fun m3 h3 hm3 c3 o3 f3 => ?_) (3 * (srd k (M k)).length) 0 m2 _ (by omega) hm (fun j h => by omega) (fun x _ => rfl) Fx.refl))
    have e11 : m2 11 = m1 11 := f12 11 (by decide)
    have rr : RW m3 3 (48 * (5 * s + k)) (srd k (M k)) := fun i hi => by
      rw [← hMk.2.1 i hi]
      unfold vAt
      rw [Nat.add_assoc, Nat.add_assoc, c3 _ (by omega), c3 _ (by omega), c3 _ (by omega), e11]
      simp only [Nat.add_assoc]
    refine hQ m3 h3 hm3 ⟨(M1.fx f12 (by decide) (by decide)).fx f3 (by decide) (by decide), fun k' hk' hk5 => ?_, fun s' k' hs' hne hk' => ?_⟩ ((hf.trans (f1.mono (by decide))).trans ((f12.mono (by decide)).trans (f3.mono (by decide))))
    · by_cases c : k' = k
      · rw [c]
        exact ⟨by rw [f3 2 (by decide)]; exact e2, rr, by omega⟩
      · obtain ⟨t1, t2, t3⟩ := hS.2.1 k' (by omega) hk5
        refine ⟨by rw [f3 2 (by decide), o2 _ (by omega), f1 2 (by decide)]; exact t1, fun i hi => ?_, t3⟩
        rw [← t2 i hi]
        unfold vAt
        rw [o3 _ (by omega), o3 _ (by omega), o3 _ (by omega), f12 3 (by decide), f1 3 (by decide)]
    · obtain ⟨t1, t2, t3⟩ := hS.2.2 s' k' hs' hne hk'
      refine ⟨by rw [f3 2 (by decide), o2 _ (by omega), f1 2 (by decide)]; exact t1, fun i hi => ?_, t3⟩
      rw [← t2 i hi]
      unfold vAt
      rw [o3 _ (by omega), o3 _ (by omega), o3 _ (by omega), f12 3 (by decide), f1 3 (by decide)]
  have n28 : (k = 1 ∨ 2 < k) → Runs (d + 2) call sc m_X4_store Q 28 [(0, .ref 60), (1, .int (nI s)), (2, .int F), (3, .int (nI k))] [] h 0 0 := fun q => by
    have e : srd k (M k) = sortK k (M k) := if_pos q
    refine go hc 3 (fun K hK => ?_)
    conv => whnf
    refine ⟨_, hm.M, Nat.le_of_ble_eq_true rfl, ?_⟩
    conv => whnf
    refine callee hc (e_sort hm (k := k) rfl hk hS.1 (by rw [mid_at]; exact hb) ?_)
    intro m1 h1 hm M1 f1
    conv => whnf
    rw [mid_at, ← e, mid_up] at M1
    try simp only [nI_1]
    refine hK _ _ _ _ _ _ (Runs.less hc [0, 1, 2, 3] rfl rfl rfl rfl (n33 m1 h1 hm M1 f1))
  refine go hc 3 (fun K hK => ?_)
  conv => whnf
  refine ⟨fun c_ => absurd c_ (show ¬ nI 5 ≤ nI k from nI_ge hk (by decide)), fun c_ => ?_⟩
  conv => whnf
  refine hK _ _ _ _ _ _ (go hc 3 (fun K hK => ?_))
  conv => whnf
  by_cases c1 : k = 1
  · refine ⟨fun c_ => ?_, fun c_ => absurd (by rw [c1]; rfl) c_⟩
    conv => whnf
    refine hK _ _ _ _ _ _ (n28 (Or.inl c1))
  · refine ⟨fun c_ => absurd c_ (fun q => c1 ((nI_eq (by omega) (by decide)).mp q)), fun c_ => ?_⟩
    conv => whnf
    refine hK _ _ _ _ _ _ (go hc 3 (fun K hK => ?_))
    conv => whnf
    by_cases c2 : 2 < k
    · refine ⟨fun c_ => absurd c_ (show ¬ nI k ≤ nI 2 from nI_ge c2 (by omega)), fun c_ => ?_⟩
      conv => whnf
      refine hK _ _ _ _ _ _ (n28 (Or.inr c2))
    · have e : srd k (M k) = M k := if_neg (by omega)
      have : mid M k = mid M (k + 1) := by
        rw [← mid_up, e]
        funext j
        by_cases c : j = k
        · rw [c, va_up_self, mid_at]
        · rw [va_up_ne _ _ c]
      refine ⟨fun c_ => ?_, fun c_ => absurd (show nI k ≤ nI 2 from nI_le (by omega) (by omega)) c_⟩
      conv => whnf
      try simp only [nI_1]
      refine hK _ _ _ _ _ _ (Runs.less hc [0, 1, 2, 3] rfl rfl rfl rfl (n33 m h hm (by rw [← this]; exact hS.1) Fx.refl))
theorem e_store (hm : MR m D Z h) {s : Nat} {X : Int32} (hX : X = nI s) (hs : s < 4) (hM : Mk m M) (hMo : Mok M) (hT : Tb m T) (h0 : (M 0).length ≤ 16) (hl2 : (M 2).length ≤ 16)
    (hQ : ∀ m' h', MR m' D Z h' → Tb m' (if fltF M = 0 then stT T s M else T) → Fx [2, 3, 11] m m' → Q (.inl (some (.int (nI (fltF M))))) h') : wpC sc (d + 3) 120 [.ref 60, .int X] h Q := by
  subst hX
  refine enter rfl rfl (fun call hc => go hc 5 (fun K hK => ?_))
  conv => whnf
  refine ⟨_, hm.M, Nat.le_of_ble_eq_true rfl, ?_⟩
  conv => whnf
  refine callee hc (e_fault hm hM hMo ?_)
  conv => whnf
  by_cases c : fltF M = 0
  · rw [if_pos c, c] at hQ
    rw [c]
    have hfl := c
    unfold fltF at hfl
    have nb : ¬ big5 M = true := fun q => by rw [if_pos q] at hfl; cases hfl
    rw [if_neg nb] at hfl
    have nr : ¬ (12 < (M 1).length ∨ 12 < (M 3).length + (M 4).length) := fun q => by rw [if_pos q] at hfl; cases hfl
    have hb : ∀ k, k < 5 → ∀ v ∈ M k, bdV 30 v := by
      have hall : ((M 0).all b30 && ((M 1).all b30 && ((M 2).all b30 && ((M 3).all b30 && (M 4).all b30)))) = true := by
        unfold big5 at nb
        simpa using nb
      simp only [Bool.and_eq_true] at hall
      intro k hk v hv
      match k, hk with
      | 0, _ => exact b30_iff.mp (List.all_eq_true.mp hall.1 v hv)
      | 1, _ => exact b30_iff.mp (List.all_eq_true.mp hall.2.1 v hv)
      | 2, _ => exact b30_iff.mp (List.all_eq_true.mp hall.2.2.1 v hv)
      | 3, _ => exact b30_iff.mp (List.all_eq_true.mp hall.2.2.2.1 v hv)
      | 4, _ => exact b30_iff.mp (List.all_eq_true.mp hall.2.2.2.2 v hv)
    have hS : Sto m T s M 0 := ⟨fun k hk => by rw [show mid M 0 k = M k from if_neg (by omega)]; exact hM k hk, fun k' h' => by omega, fun s' k' hs' _ hk' => hT s' k' hs' hk'⟩
    refine ⟨fun c_ => ?_, fun c_ => absurd (rfl) c_⟩
    conv => whnf
    refine hK _ _ _ _ _ _ ?_
    refine go hc 2 (fun K hK => ?_)
    conv => whnf
    refine hK _ _ _ _ _ _ ?_
    refine st_kind (m0 := m) hc (k := 0) rfl hs (by omega) (hb 0 (by omega)) h0 (fun m1 h1 hm1 s1 f1 => ?_) hm hS Fx.refl
    refine go hc 2 (fun K hK => ?_)
    conv => whnf
    refine hK _ _ _ _ _ _ ?_
    refine st_kind (m0 := m) hc (k := 1) rfl hs (by omega) (hb 1 (by omega)) (by omega) (fun m2 h2 hm2 s2 f2 => ?_) hm1 s1 f1
    refine go hc 2 (fun K hK => ?_)
    conv => whnf
    refine hK _ _ _ _ _ _ ?_
    refine st_kind (m0 := m) hc (k := 2) rfl hs (by omega) (hb 2 (by omega)) hl2 (fun m3 h3 hm3 s3 f3 => ?_) hm2 s2 f2
    refine go hc 2 (fun K hK => ?_)
    conv => whnf
    refine hK _ _ _ _ _ _ ?_
    refine st_kind (m0 := m) hc (k := 3) rfl hs (by omega) (hb 3 (by omega)) (by omega) (fun m4 h4 hm4 s4 f4 => ?_) hm3 s3 f3
    refine go hc 2 (fun K hK => ?_)
    conv => whnf
    refine hK _ _ _ _ _ _ ?_
    refine st_kind (m0 := m) hc (k := 4) rfl hs (by omega) (hb 4 (by omega)) (by omega) (fun m5 h5 hm5 s5 f5 => ?_) hm4 s4 f4
    refine go hc 2 (fun K hK => ?_)
    conv => whnf
    refine hK _ _ _ _ _ _ ?_
    refine go hc 3 (fun K hK => ?_)
    conv => whnf
    refine ⟨fun c_ => ?_, fun c_ => absurd (by decide) c_⟩
    conv => whnf
    refine hK _ _ _ _ _ _ ?_
    refine go hc 2 (fun K hK => ?_)
    conv => whnf
    refine hQ m5 h5 hm5 (fun s' k' hs' hk' => ?_) f5
    unfold stT
    by_cases e : s' = s
    · rw [if_pos e, e]; exact s5.2.1 k' (by omega) hk'
    · rw [if_neg e]; exact s5.2.2 s' k' hs' e hk'
  · rw [if_neg c] at hQ
    have hle : fltF M < 3 := by
      unfold fltF
      split
      · omega
      · split <;> omega
    refine ⟨fun c_ => absurd c_ (nI_ne0 (by omega) (by omega)), fun c_ => ?_⟩
    conv => whnf
    refine hK _ _ _ _ _ _ (go hc 2 (fun K hK => ?_))
    conv => whnf
    exact hQ m h hm hT Fx.refl
end ESTO
