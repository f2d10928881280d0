/-! sorting, faults, storing -/
theorem snk_len (k : Nat) : ∀ (j : Nat) (l : List V3), (snk k j l).length = l.length
  | 0, _ => rfl
  | j + 1, l => by
    unfold snk
    split
    · rw [snk_len k j, swp_len]
    · rfl
theorem srK_len (k : Nat) : ∀ (n i : Nat) (l : List V3), (srK k n i l).length = l.length
  | 0, _, _ => rfl
  | n + 1, i, l => by
    show (srK k n (i + 1) (snk k i l)).length = l.length
    rw [srK_len k n, snk_len]
theorem swp_mem2 {l : List V3} {i k : Nat} (hi : i < l.length) (hk : k < l.length) {v : V3} (h : v ∈ swp l i k) : v ∈ l := by
  unfold swp at h
  rcases List.mem_or_eq_of_mem_set h with q | q
  · rcases List.mem_or_eq_of_mem_set q with q | q
    · exact q
    · rw [q]; exact gt_mem hk
  · rw [q]; exact gt_mem hi
theorem snk_mem (k : Nat) : ∀ (j : Nat) (l : List V3), j < l.length → ∀ {v}, v ∈ snk k j l → v ∈ l
  | 0, _, _, _, h => h
  | j + 1, l, hj, v, h => by
    unfold snk at h
    split at h
    · exact swp_mem2 hj (by omega) (snk_mem k j _ (by rw [swp_len]; omega) h)
    · exact h
def b30 (v : V3) : Bool := decide ((-30 ≤ v.1 ∧ v.1 ≤ 30) ∧ (-30 ≤ v.2.1 ∧ v.2.1 ≤ 30) ∧ (-30 ≤ v.2.2 ∧ v.2.2 ≤ 30))
def big5 (M : Nat → List V3) : Bool := !((M 0).all b30 && ((M 1).all b30 && ((M 2).all b30 && ((M 3).all b30 && (M 4).all b30))))
def fltF (M : Nat → List V3) : Nat := if big5 M = true then 1 else if 12 < (M 1).length ∨ 12 < (M 3).length + (M 4).length then 2 else 0
def srd (k : Nat) (l : List V3) : List V3 := if k = 1 ∨ 2 < k then sortK k l else l
def stT (T : Tab) (s : Nat) (M : Nat → List V3) : Tab := fun s' k => if s' = s then srd k (M k) else T s' k
theorem srd_len (k : Nat) (l : List V3) : (srd k l).length = l.length := by
  unfold srd
  split
  · exact srK_len _ _ _ _
  · rfl
section ESTORE
variable {sc : Scr} {d : Nat} {m : MM} {D Z h : PH} {Q : Out → PH → Prop} {l : List V3} {M : Nat → List V3} {T : Tab}
theorem sor_in {call : Callee} (hc : call = wpC sc (d + 1)) {m0 : MM} {k i : Nat} (hk : k < 5) {R : List V3}
    (hQ : ∀ m' h', MR m' D Z h' → RW m' 11 (1800 * k) R → (∀ x, (x < 1800 * k ∨ 1800 * k + 3 * R.length ≤ x) → m' 11 x = m0 11 x) → Fx [11] m0 m' → Runs (d + 1) call sc m_X4_sort Q 125 [(0, .ref 60), (1, .int (nI k)), (2, .int (nI i))] [] h' 0 0) :
    ∀ (j : Nat) (m : MM) (h : PH) (l : List V3), j < l.length → l.length ≤ 600 → (∀ v ∈ l, bdV 30 v) → MR m D Z h → RW m 11 (1800 * k) l → (∀ x, (x < 1800 * k ∨ 1800 * k + 3 * l.length ≤ x) → m 11 x = m0 11 x) → Fx [11] m0 m → snk k j l = R →
    Runs (d + 1) call sc m_X4_sort Q 14 [(0, .ref 60), (1, .int (nI k)), (2, .int (nI i)), (3, .int (nI j))] [] h 0 0 := by
  intro j
  induction j with
  | zero =>
    intro m h l hj hl hb hm hr ho hf hR
    have hR : l = R := hR
    subst hR
    refine go hc 2 (fun K hK => ?_)
    conv => whnf
    refine ⟨fun c_ => ?_, fun c_ => absurd (by decide) c_⟩
    conv => whnf
    try simp only [nI_1]
    refine hK _ _ _ _ _ _ (Runs.less hc [0, 1, 2] rfl rfl rfl rfl (hQ m h hm hr ho hf))
  | succ j ih =>
    intro m h l hj hl hb hm hr ho hf hR
    have e1 := hr j (by omega)
    have e2 := hr (j + 1) hj
    unfold snk at hR
    refine go hc 2 (fun K hK => ?_)
    conv => whnf
    refine ⟨fun c_ => absurd c_ (nI_nle (by omega) (by omega)), fun c_ => ?_⟩
    conv => whnf
    refine hK _ _ _ _ _ _ (go hc 14 (fun K hK => ?_))
    conv => whnf
    refine ⟨_, hm.M, Nat.le_of_ble_eq_true rfl, ?_⟩
    conv => whnf
    refine callee hc (e_place (k := k) (i := j) rfl (nI_pred j) ?_)
    conv => whnf
    refine ⟨_, hm.M, Nat.le_of_ble_eq_true rfl, ?_⟩
    conv => whnf
    refine callee hc (e_place (k := k) (i := j + 1) rfl rfl ?_)
    conv => whnf
    refine ⟨_, hm.M, Nat.le_of_ble_eq_true rfl, ?_⟩
    conv => whnf
    refine callee hc (e_isAfter hm (p := 1800 * k + 3 * j) (q := 1800 * k + 3 * (j + 1)) rfl hk rfl rfl (by omega) (by omega) e1 e2 (hb _ (gt_mem (by omega))) (hb _ (gt_mem hj)) ?_)
    conv => whnf
    cases hb' : aft k (gt l j) (gt l (j + 1)) with
    | false =>
      rw [hb'] at hR
      have hR : l = R := hR
      subst hR
      refine ⟨fun c_ => ?_, fun c_ => absurd (rfl) c_⟩
      conv => whnf
      try simp only [nI_1]
      refine hK _ _ _ _ _ _ (Runs.less hc [0, 1, 2] rfl rfl rfl rfl (hQ m h hm hr ho hf))
    | true =>
      rw [hb'] at hR
      have hR : snk k j (swp l (j + 1) j) = R := hR
      refine ⟨fun c_ => absurd c_ (by decide), fun c_ => ?_⟩
      conv => whnf
      refine hK _ _ _ _ _ _ ?_
      refine sw_rows hc hm hk (by omega) fun m1 h1 hm1 a1 a2 o1 f1 => ?_
      have hr1 : RW m1 11 (1800 * k) (swp l (j + 1) j) := fun x hx => by
        rw [swp_len] at hx
        unfold swp
        rw [gt_set (by rw [List.length_set]; omega), gt_set hj]
        by_cases c1 : j = x
        · rw [if_pos c1, ← c1, a2, e2]
        · rw [if_neg c1]
          by_cases c2 : j + 1 = x
          · rw [if_pos c2, ← c2, a1, e1]
          · rw [if_neg c2, ← hr x hx]
            unfold vAt
            rw [o1 _ (by omega), o1 _ (by omega), o1 _ (by omega)]
      refine go hc 2 (fun K hK => ?_)
      conv => whnf
      rw [nI_dec]
      try simp only [nI_1]
      refine hK _ _ _ _ _ _ (Runs.less hc [0, 1, 2, 3] rfl rfl rfl rfl (ih m1 h1 (swp l (j + 1) j) (by rw [swp_len]; omega) (by rw [swp_len]; exact hl) (fun v hv => hb v (swp_mem2 hj (by omega) hv)) hm1 hr1 (fun x hx => by rw [swp_len] at hx; rw [o1 x (by omega)]; exact ho x hx) (hf.trans f1) hR))
theorem sor_out {call : Callee} (hc : call = wpC sc (d + 1)) {m0 : MM} {k : Nat} (hk : k < 5) {R : List V3} (hcnt : m0 10 k = (R.length : Int)) (hR6 : R.length ≤ 600)
    (hQ : ∀ m' h', MR m' D Z h' → RW m' 11 (1800 * k) R → (∀ x, (x < 1800 * k ∨ 1800 * k + 3 * R.length ≤ x) → m' 11 x = m0 11 x) → Fx [11] m0 m' → Q (.inl none) h') :
    ∀ (n i : Nat) (m : MM) (h : PH) (l : List V3), i + n = l.length → l.length = R.length → (∀ v ∈ l, bdV 30 v) → MR m D Z h → RW m 11 (1800 * k) l → (∀ x, (x < 1800 * k ∨ 1800 * k + 3 * R.length ≤ x) → m 11 x = m0 11 x) → Fx [11] m0 m → srK k n i l = R →
    Runs (d + 1) call sc m_X4_sort Q 2 [(0, .ref 60), (1, .int (nI k)), (2, .int (nI i))] [] h 0 0 := by
  intro n
  induction n with
  | zero =>
    intro i m h l hi hl hb hm hr ho hf hR
    have hR : l = R := hR
    subst hR
    have e10 : mI m 10 k = nI l.length := by unfold mI; rw [hf 10 (by decide), hcnt]; rfl
    refine go hc 6 (fun K hK => ?_)
    conv => whnf
    refine ⟨_, _, hm.M, rfl, ?_⟩
    conv => whnf
    refine Or.inr ⟨_, _, hm.I10, ixv (k := k) ((rfl : nI (k) = nI (k))) (by omega) (Nat.le_of_ble_eq_true rfl), ?_⟩
    rw [ixc (k := k) ((rfl : nI (k) = nI (k))) (by omega)]
    conv => whnf
    rw [e10]
    refine ⟨fun c_ => ?_, fun c_ => absurd (nI_le (by omega) (by omega)) c_⟩
    conv => whnf
    refine hK _ _ _ _ _ _ (go hc 1 (fun K hK => ?_))
    conv => whnf
    exact hQ m h hm hr ho hf
  | succ n ih =>
    intro i m h l hi hl hb hm hr ho hf hR
    have e10 : mI m 10 k = nI l.length := by unfold mI; rw [hf 10 (by decide), hcnt, hl]; rfl
    have hR : srK k n (i + 1) (snk k i l) = R := hR
    have hsl := snk_len k i l
    refine go hc 6 (fun K hK => ?_)
    conv => whnf
    refine ⟨_, _, hm.M, rfl, ?_⟩
    conv => whnf
    refine Or.inr ⟨_, _, hm.I10, ixv (k := k) ((rfl : nI (k) = nI (k))) (by omega) (Nat.le_of_ble_eq_true rfl), ?_⟩
    rw [ixc (k := k) ((rfl : nI (k) = nI (k))) (by omega)]
    conv => whnf
    rw [e10]
    refine ⟨fun c_ => absurd c_ (nI_ge (by omega) (by omega)), fun c_ => ?_⟩
    conv => whnf
    refine hK _ _ _ _ _ _ (go hc 2 (fun K hK => ?_))
    conv => whnf
    try simp only [nI_1]
    refine hK _ _ _ _ _ _ (Runs.less hc [0, 1, 2, 3] rfl rfl rfl rfl (sor_in (m0 := m) hc hk (R := snk k i l) (fun m1 h1 hm1 r1 o1 f1 => ?_) i m h l (by omega) (by omega) hb hm hr (fun x _ => rfl) Fx.refl rfl))
    refine go hc 2 (fun K hK => ?_)
    conv => whnf
    try simp only [nI_1]
    refine hK _ _ _ _ _ _ (Runs.less hc [0, 1, 2] rfl rfl rfl rfl (ih (i + 1) m1 h1 (snk k i l) (by omega) (by omega) (fun v hv => hb v (snk_mem k i l (by omega) hv)) hm1 r1 (fun x hx => by rw [o1 x (by omega)]; exact ho x hx) (hf.trans f1) hR))
theorem e_sort (hm : MR m D Z h) {k : Nat} {X : Int32} (hX : X = nI k) (hk : k < 5) (hM : Mk m M) (hb : ∀ v ∈ M k, bdV 30 v)
    (hQ : ∀ m' h', MR m' D Z h' → Mk m' (va_up M k (sortK k (M k))) → Fx [11] m m' → Q (.inl none) h') : wpC sc (d + 2) 118 [.ref 60, .int X] h Q := by
  subst hX
  have hMk := hM k hk
  have hl := hMk.2.2
  have hsl : (sortK k (M k)).length = (M k).length := srK_len _ _ _ _
  have fin : ∀ m' h', MR m' D Z h' → RW m' 11 (1800 * k) (sortK k (M k)) → (∀ x, (x < 1800 * k ∨ 1800 * k + 3 * (sortK k (M k)).length ≤ x) → m' 11 x = m 11 x) → Fx [11] m m' → Q (.inl none) h' := fun m' h' hm' r' o' f' => by
    refine hQ m' h' hm' (fun j hj => ?_) f'
    by_cases c : j = k
    · subst c
      rw [va_up_self]
      exact ⟨by rw [f' 10 (by decide), hsl]; exact hMk.1, r', by omega⟩
    · rw [va_up_ne _ _ c]
      have hMj := hM j hj
      have hjl := hMj.2.2
      refine ⟨by rw [f' 10 (by decide)]; exact hMj.1, fun i hi => ?_, hjl⟩
      rw [← hMj.2.1 i hi]
      unfold vAt
      rw [o' _ (by omega), o' _ (by omega), o' _ (by omega)]
  refine enter rfl rfl (fun call hc => go hc 2 (fun K hK => ?_))
  conv => whnf
  by_cases c : (M k).length = 0
  · have e : sortK k (M k) = M k := by unfold sortK; rw [c]; rfl
    have e10 : mI m 10 k = nI 0 := by unfold mI; rw [hMk.1, c]; rfl
    refine hK _ _ _ _ _ _ ?_
    refine go hc 6 (fun K hK => ?_)
    conv => whnf
    refine ⟨_, _, hm.M, rfl, ?_⟩
    conv => whnf
    refine Or.inr ⟨_, _, hm.I10, ixv (k := k) ((rfl : nI (k) = nI (k))) (by omega) (Nat.le_of_ble_eq_true rfl), ?_⟩
    rw [ixc (k := k) ((rfl : nI (k) = nI (k))) (by omega)]
    conv => whnf
    rw [e10]
    refine ⟨fun c_ => ?_, fun c_ => absurd (by decide) c_⟩
    conv => whnf
    refine hK _ _ _ _ _ _ (go hc 1 (fun K hK => ?_))
    conv => whnf
    exact fin m h hm (by rw [e]; exact hMk.2.1) (fun x _ => rfl) Fx.refl
  · try simp only [nI_1]
    refine hK _ _ _ _ _ _ (Runs.less hc [0, 1, 2] rfl rfl rfl rfl (sor_out (Q := qth _ Q) (m0 := m) hc hk (R := sortK k (M k)) (by rw [hsl]; exact hMk.1) (by omega) fin ((M k).length - 1) 1 m h (M k) (by omega) hsl.symm hb hm hMk.2.1 (fun x _ => rfl) Fx.refl rfl))
theorem fa_cell {call : Callee} (hc : call = wpC sc (d + 1)) (hm : MR m D Z h) {k x : Nat} (hk : k < 5) (hl : m 10 k = (l.length : Int)) (hl6 : l.length ≤ 600) (hx : x < 1800 * k + 3 * l.length) (hw : inL (m 11 x)) (hbad : ¬ bdI 30 (m 11 x) → Q (.inl (some (.int 1))) h)
    (hok : bdI 30 (m 11 x) → Runs (d + 1) call sc m_X4_fault Q 14 [(0, .ref 60), (1, .int (nI k)), (2, .int (nI (x + 1)))] [] h 0 0) : Runs (d + 1) call sc m_X4_fault Q 14 [(0, .ref 60), (1, .int (nI k)), (2, .int (nI x))] [] h 0 0 := by
  have e10 : mI m 10 k = nI l.length := by unfold mI; rw [hl]; rfl
  have i30 : inL 30 := ⟨by omega, by omega⟩
  have im30 : inL (-30) := ⟨by omega, by omega⟩
  have n55 : ¬ bdI 30 (m 11 x) → Runs (d + 1) call sc m_X4_fault Q 55 [(0, .ref 60), (1, .int (nI k)), (2, .int (nI x))] [] h 0 0 := fun q => by
    refine go hc 2 (fun K hK => ?_)
    conv => whnf
    exact hbad q
  refine go hc 9 (fun K hK => ?_)
  conv => whnf
  refine ⟨_, _, hm.M, rfl, ?_⟩
  conv => whnf
  refine Or.inr ⟨_, _, hm.I10, ixv (k := k) ((rfl : nI (k) = nI (k))) (by omega) (Nat.le_of_ble_eq_true rfl), ?_⟩
  rw [ixc (k := k) ((rfl : nI (k) = nI (k))) (by omega)]
  conv => whnf
  refine ⟨_, hm.M, Nat.le_of_ble_eq_true rfl, ?_⟩
  conv => whnf
  refine callee hc (e_place (k := k) (i := l.length) rfl e10 ?_)
  conv => whnf
  refine ⟨fun c_ => absurd c_ (nI_ge hx (by omega)), fun c_ => ?_⟩
  conv => whnf
  refine hK _ _ _ _ _ _ (go hc 7 (fun K hK => ?_))
  conv => whnf
  refine ⟨_, _, hm.M, rfl, ?_⟩
  conv => whnf
  refine ⟨_, _, hm.L11, ixv (k := x) ((rfl : nI (x) = nI (x))) (by omega) (Nat.le_of_ble_eq_true rfl), ?_⟩
  rw [ixc (k := x) ((rfl : nI (x) = nI (x))) (by omega)]
  conv => whnf
  unfold mL
  rw [show (-30 : Int64) = Int64.ofInt (-30) from rfl]
  by_cases c1 : m 11 x < -30
  · refine ⟨fun c_ => ?_, fun c_ => absurd ((kLt hw im30).mpr c1) c_⟩
    conv => whnf
    refine hK _ _ _ _ _ _ (n55 fun q => by have := q.1; omega)
  · refine ⟨fun c_ => absurd c_ (fun q => c1 ((kLt hw im30).mp q)), fun c_ => ?_⟩
    conv => whnf
    refine hK _ _ _ _ _ _ (go hc 7 (fun K hK => ?_))
    conv => whnf
    refine ⟨_, _, hm.M, rfl, ?_⟩
    conv => whnf
    refine ⟨_, _, hm.L11, ixv (k := x) ((rfl : nI (x) = nI (x))) (by omega) (Nat.le_of_ble_eq_true rfl), ?_⟩
    rw [ixc (k := x) ((rfl : nI (x) = nI (x))) (by omega)]
    conv => whnf
    unfold mL
    rw [show (30 : Int64) = Int64.ofInt 30 from rfl]
    by_cases c2 : m 11 x ≤ 30
    · refine ⟨fun c_ => ?_, fun c_ => absurd ((kLe hw i30).mpr c2) c_⟩
      conv => whnf
      refine hK _ _ _ _ _ _ ?_
      refine go hc 2 (fun K hK => ?_)
      conv => whnf
      try simp only [nI_1]
      refine hK _ _ _ _ _ _ (Runs.less hc [0, 1, 2] rfl rfl rfl rfl (hok ⟨by omega, c2⟩))
    · refine ⟨fun c_ => absurd c_ (fun q => c2 ((kLe hw i30).mp q)), fun c_ => ?_⟩
      conv => whnf
      refine hK _ _ _ _ _ _ (n55 fun q => by have := q.2; omega)
theorem b30_iff {v : V3} : b30 v = true ↔ bdV 30 v := by
  unfold b30 bdV bdI
  rw [decide_eq_true_iff]
theorem fa_rows {call : Callee} (hc : call = wpC sc (d + 1)) (hm : MR m D Z h) {k : Nat} (hk : k < 5) (hM : MK m k l) (hin : ∀ v ∈ l, inV v) (hbad : l.all b30 = false → Q (.inl (some (.int 1))) h)
    (hok : l.all b30 = true → Runs (d + 1) call sc m_X4_fault Q 63 [(0, .ref 60), (1, .int (nI k))] [] h 0 0) :
    ∀ n i, i + n = l.length → l.all b30 = (l.drop i).all b30 → Runs (d + 1) call sc m_X4_fault Q 14 [(0, .ref 60), (1, .int (nI k)), (2, .int (nI (1800 * k + 3 * i)))] [] h 0 0 := by
  have e10 : mI m 10 k = nI l.length := by unfold mI; rw [hM.1]; rfl
  have hl6 := hM.2.2
  intro n
  induction n with
  | zero =>
    intro i hi hall
    rw [List.drop_eq_nil_of_le (by omega)] at hall
    refine go hc 9 (fun K hK => ?_)
    conv => whnf
    refine ⟨_, _, hm.M, rfl, ?_⟩
    conv => whnf
    refine Or.inr ⟨_, _, hm.I10, ixv (k := k) ((rfl : nI (k) = nI (k))) (by omega) (Nat.le_of_ble_eq_true rfl), ?_⟩
    rw [ixc (k := k) ((rfl : nI (k) = nI (k))) (by omega)]
    conv => whnf
    refine ⟨_, hm.M, Nat.le_of_ble_eq_true rfl, ?_⟩
    conv => whnf
    refine callee hc (e_place (k := k) (i := l.length) rfl e10 ?_)
    conv => whnf
    refine ⟨fun c_ => ?_, fun c_ => absurd (nI_le (by omega) (by omega)) c_⟩
    conv => whnf
    try simp only [nI_1]
    refine hK _ _ _ _ _ _ (Runs.less hc [0, 1] rfl rfl rfl rfl (hok hall))
  | succ n ih =>
    intro i hi hall
    have hil : i < l.length := by omega
    obtain ⟨e0, e1, e2⟩ := hM.2.1.at hil
    have hv := hin _ (gt_mem hil)
    rw [drop_gt hil, List.all_cons] at hall
    have bad : ¬ bdV 30 (gt l i) → Q (.inl (some (.int 1))) h := fun q => hbad (by rw [hall, (Bool.not_eq_true _).mp fun z => q (b30_iff.mp z)]; rfl)
    refine fa_cell hc hm hk hM.1 hl6 (by omega) (by rw [e0]; exact hv.1) (fun q => bad fun z => q (by rw [e0]; exact z.1)) fun b0 => ?_
    refine fa_cell hc hm hk hM.1 hl6 (by omega) (by rw [e1]; exact hv.2.1) (fun q => bad fun z => q (by rw [e1]; exact z.2.1)) fun b1 => ?_
    refine fa_cell hc hm hk hM.1 hl6 (by omega) (by rw [e2]; exact hv.2.2) (fun q => bad fun z => q (by rw [e2]; exact z.2.2)) fun b2 => ?_
    rw [e0] at b0
    rw [e1] at b1
    rw [e2] at b2
    rw [b30_iff.mpr ⟨b0, b1, b2⟩, Bool.true_and] at hall
    exact ih (i + 1) (by omega) hall
theorem e_fault (hm : MR m D Z h) (hM : Mk m M) (hMo : Mok M) (hQ : Q (.inl (some (.int (nI (fltF M))))) h) : wpC sc (d + 2) 119 [.ref 60] h Q := by
  have q1 := hM.le (show 1 < 5 by omega)
  have q3 := hM.le (show 3 < 5 by omega)
  have q4 := hM.le (show 4 < 5 by omega)
  unfold fltF at hQ
  have kind : ∀ {call : Callee}, call = wpC sc (d + 1) → ∀ (k : Nat) (X : Int32), X = nI k → k < 5 → ((M k).all b30 = false → big5 M = true) → ((M k).all b30 = true → Runs (d + 1) call sc m_X4_fault (qth (mTh m_X4_fault) Q) 63 [(0, .ref 60), (1, .int X)] [] h 0 0) → Runs (d + 1) call sc m_X4_fault (qth (mTh m_X4_fault) Q) 2 [(0, .ref 60), (1, .int X)] [] h 0 0 := by
    intro call hc k X hX hk hb hok
    subst hX
    refine go hc 3 (fun K hK => ?_)
    conv => whnf
    refine ⟨fun c_ => absurd c_ (show ¬ nI 5 ≤ nI k from nI_ge hk (by decide)), fun c_ => ?_⟩
    conv => whnf
    refine hK _ _ _ _ _ _ (go hc 5 (fun K hK => ?_))
    conv => whnf
    refine ⟨_, hm.M, Nat.le_of_ble_eq_true rfl, ?_⟩
    conv => whnf
    refine callee hc (e_place (k := k) (i := 0) rfl rfl ?_)
    conv => whnf
    try simp only [nI_1]
    refine hK _ _ _ _ _ _ (Runs.less hc [0, 1, 2] rfl rfl rfl rfl (fa_rows (Q := qth _ Q) hc hm hk (hM k hk) (hMo k hk) (fun q => by rw [if_pos (hb q)] at hQ; exact hQ) hok (M k).length 0 (by omega) rfl))
  refine enter rfl rfl (fun call hc => go hc 2 (fun K hK => ?_))
  conv => whnf
  refine hK _ _ _ _ _ _ ?_
  refine kind hc 0 0 rfl (by omega) (fun q => by unfold big5; rw [q]; rfl) fun a0 => ?_
  refine go hc 2 (fun K hK => ?_)
  conv => whnf
  refine hK _ _ _ _ _ _ ?_
  refine kind hc 1 (0 + 1) rfl (by omega) (fun q => by unfold big5; rw [a0, q]; rfl) fun a1 => ?_
  refine go hc 2 (fun K hK => ?_)
  conv => whnf
  refine hK _ _ _ _ _ _ ?_
  refine kind hc 2 (0 + 1 + 1) rfl (by omega) (fun q => by unfold big5; rw [a0, a1, q]; rfl) fun a2 => ?_
  refine go hc 2 (fun K hK => ?_)
  conv => whnf
  refine hK _ _ _ _ _ _ ?_
  refine kind hc 3 (0 + 1 + 1 + 1) rfl (by omega) (fun q => by unfold big5; rw [a0, a1, a2, q]; rfl) fun a3 => ?_
  refine go hc 2 (fun K hK => ?_)
  conv => whnf
  refine hK _ _ _ _ _ _ ?_
  refine kind hc 4 (0 + 1 + 1 + 1 + 1) rfl (by omega) (fun q => by unfold big5; rw [a0, a1, a2, a3, q]; rfl) fun a4 => ?_
  have nb : ¬ big5 M = true := by unfold big5; rw [a0, a1, a2, a3, a4]; decide
  rw [if_neg nb] at hQ
  refine go hc 2 (fun K hK => ?_)
  conv => whnf
  refine hK _ _ _ _ _ _ ?_
  refine go hc 3 (fun K hK => ?_)
  conv => whnf
  refine ⟨fun c_ => ?_, fun c_ => absurd (by decide) c_⟩
  conv => whnf
  refine hK _ _ _ _ _ _ ?_
  have n98 : (12 < (M 1).length ∨ 12 < (M 3).length + (M 4).length) → Runs (d + 1) call sc m_X4_fault (qth (mTh m_X4_fault) Q) 98 [(0, .ref 60)] [] h 0 0 := fun q => by
    rw [if_pos q] at hQ
    refine go hc 2 (fun K hK => ?_)
    conv => whnf
    refine hK _ _ _ _ _ _ ?_
    refine go hc 1 (fun K hK => ?_)
    conv => whnf
    exact hQ
  refine go hc 6 (fun K hK => ?_)
  conv => whnf
  refine ⟨_, _, hm.M, rfl, ?_⟩
  conv => whnf
  refine Or.inr ⟨_, _, hm.I10, ixv (k := 1) ((rfl : (1 : Int32) = nI 1)) (by omega) (Nat.le_of_ble_eq_true rfl), ?_⟩
  rw [ixc (k := 1) ((rfl : (1 : Int32) = nI 1)) (by omega)]
  conv => whnf
  rw [hM.cnt (by omega)]
  by_cases c1 : 12 < (M 1).length
  · refine ⟨fun c_ => ?_, fun c_ => absurd (show nI 12 < nI (M 1).length from nI_lt c1 (by omega)) c_⟩
    conv => whnf
    try simp only [nI_1]
    refine hK _ _ _ _ _ _ (Runs.less hc [0] rfl rfl rfl rfl (n98 (Or.inl c1)))
  · refine ⟨fun c_ => absurd c_ (show ¬ nI 12 < nI (M 1).length from nI_nlt (by omega) (by omega)), fun c_ => ?_⟩
    conv => whnf
    refine hK _ _ _ _ _ _ (go hc 11 (fun K hK => ?_))
    conv => whnf
    refine ⟨_, _, hm.M, rfl, ?_⟩
    conv => whnf
    refine Or.inr ⟨_, _, hm.I10, ixv (k := 3) ((rfl : (3 : Int32) = nI 3)) (by omega) (Nat.le_of_ble_eq_true rfl), ?_⟩
    rw [ixc (k := 3) ((rfl : (3 : Int32) = nI 3)) (by omega)]
    conv => whnf
    refine ⟨_, _, hm.M, rfl, ?_⟩
    conv => whnf
    refine Or.inr ⟨_, _, hm.I10, ixv (k := 4) ((rfl : (4 : Int32) = nI 4)) (by omega) (Nat.le_of_ble_eq_true rfl), ?_⟩
    rw [ixc (k := 4) ((rfl : (4 : Int32) = nI 4)) (by omega)]
    conv => whnf
    rw [hM.cnt (by omega), hM.cnt (by omega), nI_add]
    by_cases c2 : 12 < (M 3).length + (M 4).length
    · refine ⟨fun c_ => absurd c_ (show ¬ nI ((M 3).length + (M 4).length) ≤ nI 12 from nI_ge c2 (by omega)), fun c_ => ?_⟩
      conv => whnf
      try simp only [nI_1]
      refine hK _ _ _ _ _ _ (Runs.less hc [0] rfl rfl rfl rfl (n98 (Or.inr c2)))
    · rw [if_neg (fun q => q.elim c1 c2)] at hQ
      refine ⟨fun c_ => ?_, fun c_ => absurd (show nI ((M 3).length + (M 4).length) ≤ nI 12 from nI_le (by omega) (by omega)) c_⟩
      conv => whnf
      refine hK _ _ _ _ _ _ (go hc 1 (fun K hK => ?_))
      conv => whnf
      refine hK _ _ _ _ _ _ ?_
      refine go hc 1 (fun K hK => ?_)
      conv => whnf
      exact hQ
end ESTORE
