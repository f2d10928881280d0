/-! offering a vector and its opposite -/
def goodB (c : V3) (l : List V3) : Bool := l.all fun v => decide (0 ≤ dot c v)
def of1 (F : List V3) (c : V3) (l : List V3) : List V3 := if goodB c l = true then kp F c else F
def ofr (l F : List V3) (c : V3) : List V3 := of1 (of1 F c l) (neg3 c) l
theorem kp_len (F : List V3) (c : V3) : F.length ≤ (kp F c).length ∧ (kp F c).length ≤ F.length + 1 := by
  unfold kp
  split
  · omega
  · rw [List.length_append, List.length_singleton]; omega
theorem of1_len (F : List V3) (c : V3) (l : List V3) : F.length ≤ (of1 F c l).length ∧ (of1 F c l).length ≤ F.length + 1 := by
  unfold of1
  split
  · exact kp_len F c
  · omega
theorem ofr_len (l F : List V3) (c : V3) : F.length ≤ (ofr l F c).length ∧ (ofr l F c).length ≤ F.length + 2 := by
  unfold ofr
  have h1 := of1_len F c l
  have h2 := of1_len (of1 F c l) (neg3 c) l
  omega
theorem of1_mem {F l : List V3} {c f : V3} (h : f ∈ of1 F c l) : f ∈ F ∨ f = c := by
  unfold of1 kp at h
  split at h
  · split at h
    · exact Or.inl h
    · rcases List.mem_append.mp h with h | h
      · exact Or.inl h
      · exact Or.inr (List.mem_singleton.mp h)
  · exact Or.inl h
theorem inV_neg {v : V3} (h : inV v) : inV (neg3 v) := ⟨h.1.neg, h.2.1.neg, h.2.2.neg⟩
theorem neg_dot3 (c v : V3) : dot (neg3 c) v = -(dot c v) := by
  unfold dot neg3
  simp only [Int.neg_mul]
  omega
theorem neg_neg3 (v : V3) : neg3 (neg3 v) = v := by
  unfold neg3
  exact Prod.ext (Int.neg_neg _) (Prod.ext (Int.neg_neg _) (Int.neg_neg _))
section EOFFER
variable {sc : Scr} {d : Nat} {m : MM} {D Z h : PH} {Q : Out → PH → Prop} {F l : List V3} {a : Nat}
theorem of_in {call : Callee} (hc : call = wpC sc (d + 1)) (hm : MR m D Z h) (ha : larr a) (hl : RW m a 0 l) (hla : 3 * l.length ≤ alen a) {X : Int32} (hin : ∀ v ∈ l, inL (dot (vAt m 7 0) v)) :
    ∀ (n i : Nat), i + n = l.length → Runs (d + 1) call sc m_X4_offer Q 55 [(0, .ref 60), (1, .ref (a + 60)), (2, .int (nI l.length)), (3, .int X), (4, .int (bI01 (goodB (vAt m 7 0) (l.drop i))))] [] h 0 0 →
    Runs (d + 1) call sc m_X4_offer Q 13 [(0, .ref 60), (1, .ref (a + 60)), (2, .int (nI l.length)), (3, .int X), (4, .int 1), (5, .int (nI i))] [] h 0 0 := by
  have h1 := alen_lt a
  intro n
  induction n with
  | zero =>
    intro i hi hk
    rw [List.drop_eq_nil_of_le (by omega)] at hk
    refine go hc 3 (fun K hK => ?_)
    conv => whnf
    refine ⟨fun c_ => ?_, fun c_ => absurd (nI_le (by omega) (by omega)) c_⟩
    conv => whnf
    try simp only [nI_1]
    refine hK _ _ _ _ _ _ (Runs.less hc [0, 1, 2, 3, 4] rfl rfl rfl rfl hk)
  | succ n ih =>
    intro i hi hk
    have hil : i < l.length := by omega
    rw [drop_gt hil] at hk
    unfold goodB at hk
    rw [List.all_cons] at hk
    have hd := hin _ (gt_mem hil)
    have ev := hl.v0 hil
    refine go hc 3 (fun K hK => ?_)
    conv => whnf
    refine ⟨fun c_ => absurd c_ (nI_ge (by omega) (by omega)), fun c_ => ?_⟩
    conv => whnf
    refine hK _ _ _ _ _ _ (go hc 2 (fun K hK => ?_))
    conv => whnf
    refine ⟨fun c_ => absurd c_ (by decide), fun c_ => ?_⟩
    conv => whnf
    refine hK _ _ _ _ _ _ (go hc 11 (fun K hK => ?_))
    conv => whnf
    refine ⟨_, _, hm.M, rfl, ?_⟩
    conv => whnf
    refine ⟨Nat.le_of_ble_eq_true rfl, ?_⟩
    conv => whnf
    refine callee hc (e_dot hm (a := 7) (b := a) (i := 0) (j := 3 * i) (by decide) ha rfl (im rfl rfl) (by decide) (by omega) ?_)
    rw [ev]
    conv => whnf
    by_cases c : 0 ≤ dot (vAt m 7 0) (gt l i)
    · rw [decide_eq_true c, Bool.true_and] at hk
      refine ⟨fun c_ => absurd c_ (fun q => by have := (kLt0 hd).mp q; omega), fun c_ => ?_⟩
      conv => whnf
      refine hK _ _ _ _ _ _ (go hc 5 (fun K hK => ?_))
      conv => whnf
      try simp only [nI_1]
      refine hK _ _ _ _ _ _ (Runs.less hc [0, 1, 2, 3, 4, 5] rfl rfl rfl rfl (ih _ (by omega) hk))
    · rw [decide_eq_false c, Bool.false_and] at hk
      refine ⟨fun c_ => ?_, fun c_ => absurd ((kLt0 hd).mpr (by omega)) c_⟩
      conv => whnf
      refine hK _ _ _ _ _ _ (go hc 4 (fun K hK => ?_))
      conv => whnf
      refine hK _ _ _ _ _ _ ?_
      rw [nI_1]
      refine go hc 3 (fun K hK => ?_)
      conv => whnf
      by_cases c2 : i + 1 < l.length
      · refine ⟨fun c_ => absurd c_ (nI_ge c2 (by omega)), fun c_ => ?_⟩
        conv => whnf
        refine hK _ _ _ _ _ _ (go hc 2 (fun K hK => ?_))
        conv => whnf
        refine ⟨fun c_ => ?_, fun c_ => absurd (rfl) c_⟩
        conv => whnf
        try simp only [nI_1]
        refine hK _ _ _ _ _ _ (Runs.less hc [0, 1, 2, 3, 4] rfl rfl rfl rfl hk)
      · refine ⟨fun c_ => ?_, fun c_ => absurd (nI_le (by omega) (by omega)) c_⟩
        conv => whnf
        try simp only [nI_1]
        refine hK _ _ _ _ _ _ (Runs.less hc [0, 1, 2, 3, 4] rfl rfl rfl rfl hk)
theorem of_half {call : Callee} (hc : call = wpC sc (d + 1)) (hm : MR m D Z h) {X N : Int32} {g : Bool} {c : V3} (hcv : vAt m 7 0 = c) (hci : inV c) (hfn : m 16 0 = (F.length : Int)) (hF : RW m 6 0 F) (hFl : F.length < 600) (hFi : ∀ f ∈ F, inV f)
    (hQ : ∀ m' h', MR m' D Z h' → RW m' 6 0 (if g = true then kp F c else F) → m' 16 0 = ((if g = true then kp F c else F).length : Int) → vAt m' 7 0 = neg3 c → Fx [6, 7, 16] m m' → Runs (d + 1) call sc m_X4_offer Q 68 [(0, .ref 60), (1, .ref (a + 60)), (2, .int N), (3, .int X)] [] h' 0 0) :
    Runs (d + 1) call sc m_X4_offer Q 55 [(0, .ref 60), (1, .ref (a + 60)), (2, .int N), (3, .int X), (4, .int (bI01 g))] [] h 0 0 := by
  subst hcv
  cases g with
  | true =>
    refine go hc 2 (fun K hK => ?_)
    conv => whnf
    refine ⟨fun c_ => absurd c_ (by decide), fun c_ => ?_⟩
    conv => whnf
    refine hK _ _ _ _ _ _ (go hc 4 (fun K hK => ?_))
    conv => whnf
    refine ⟨_, hm.M, Nat.le_of_ble_eq_true rfl, ?_⟩
    conv => whnf
    refine callee hc (e_keep hm hfn hF hFl hFi hci ?_)
    intro m1 h1 hm r1 n1 f1
    conv => whnf
    refine ⟨_, hm.M, Nat.le_of_ble_eq_true rfl, ?_⟩
    conv => whnf
    refine callee hc (e_turn hm ?_)
    intro m2 h2 hm v2 f2
    conv => whnf
    try simp only [nI_1]
    refine hK _ _ _ _ _ _ (Runs.less hc [0, 1, 2, 3] rfl rfl rfl rfl (hQ m2 h2 hm (r1.eq (f2 6 (by decide))) (by rw [f2 16 (by decide)]; exact n1) (by rw [v2, vAt_eq (f1 7 (by decide))]) ((f1.mono (by decide)).trans (f2.mono (by decide)))))
  | false =>
    refine go hc 2 (fun K hK => ?_)
    conv => whnf
    refine ⟨fun c_ => ?_, fun c_ => absurd (rfl) c_⟩
    conv => whnf
    refine hK _ _ _ _ _ _ (go hc 2 (fun K hK => ?_))
    conv => whnf
    refine ⟨_, hm.M, Nat.le_of_ble_eq_true rfl, ?_⟩
    conv => whnf
    refine callee hc (e_turn hm ?_)
    intro m2 h2 hm v2 f2
    conv => whnf
    try simp only [nI_1]
    refine hK _ _ _ _ _ _ (Runs.less hc [0, 1, 2, 3] rfl rfl rfl rfl (hQ m2 h2 hm (hF.eq (f2 6 (by decide))) (by rw [f2 16 (by decide)]; exact hfn) v2 (f2.mono (by decide))))
theorem e_offer (hm : MR m D Z h) (ha : larr a) (ha6 : a ≠ 6) (ha7 : a ≠ 7) (hl : RW m a 0 l) (hla : 3 * l.length ≤ alen a) {N : Int32} (hN : N = nI l.length) (hfn : m 16 0 = (F.length : Int)) (hF : RW m 6 0 F) (hFl : F.length + 2 ≤ 600) (hFi : ∀ f ∈ F, inV f) {c : V3} (hcv : vAt m 7 0 = c) (hci : inV c)
    (hin : ∀ v ∈ l, inL (dot c v)) (hQ : ∀ m' h', MR m' D Z h' → RW m' 6 0 (ofr l F c) → m' 16 0 = ((ofr l F c).length : Int) → Fx [6, 7, 16] m m' → Q (.inl none) h') : wpC sc (d + 2) 86 [.ref 60, .ref (a + 60), .int N] h Q := by
  subst hN
  have hlen := of1_len F c l
  have ha16 : a ≠ 16 := by
    rcases ha with h | h | h | h | h | h <;> omega
  refine enter rfl rfl (fun call hc => go hc 5 (fun K hK => ?_))
  conv => whnf
  refine ⟨fun c_ => absurd c_ (by decide), fun c_ => ?_⟩
  conv => whnf
  refine hK _ _ _ _ _ _ (go hc 4 (fun K hK => ?_))
  conv => whnf
  try simp only [nI_1]
  refine hK _ _ _ _ _ _ (Runs.less hc [0, 1, 2, 3, 4, 5] rfl rfl rfl rfl (of_in (Q := qth _ Q) hc hm ha hl hla (by rw [hcv]; exact hin) l.length 0 (by omega) ?_))
  rw [hcv]
  refine of_half hc hm hcv hci hfn hF (by omega) hFi fun m1 h1 hm r1 n1 v1 f1 => ?_
  have r1' : RW m1 6 0 (of1 F c l) := r1
  have n1' : m1 16 0 = ((of1 F c l).length : Int) := n1
  refine go hc 5 (fun K hK => ?_)
  conv => whnf
  refine ⟨fun c_ => absurd c_ (by decide), fun c_ => ?_⟩
  conv => whnf
  refine hK _ _ _ _ _ _ (go hc 4 (fun K hK => ?_))
  conv => whnf
  try simp only [nI_1]
  refine hK _ _ _ _ _ _ (Runs.less hc [0, 1, 2, 3, 4, 5] rfl rfl rfl rfl (of_in (Q := qth _ Q) hc hm ha (hl.eq (f1 a (by simp; omega))) hla (by rw [v1]; exact fun v hv => by rw [neg_dot3]; exact (hin v hv).neg) l.length 0 (by omega) ?_))
  rw [v1]
  refine of_half hc hm v1 (inV_neg hci) n1' r1' (by omega) (fun f hf => ?_) fun m2 h2 hm r2 n2 v2 f2 => ?_
  · rcases of1_mem hf with h | h
    · exact hFi f h
    · rw [h]; exact hci
  refine go hc 5 (fun K hK => ?_)
  conv => whnf
  refine ⟨fun c_ => ?_, fun c_ => absurd (by decide) c_⟩
  conv => whnf
  refine hK _ _ _ _ _ _ (go hc 1 (fun K hK => ?_))
  conv => whnf
  exact hQ m2 h2 hm r2 n2 (f1.trans f2)
end EOFFER
