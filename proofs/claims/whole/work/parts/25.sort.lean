/-! dropping idle edges, sorting -/
def nid (v : V3) : Bool := decide (¬ (v.2.1 = 0 ∧ v.2.2 = 0))
theorem nI_m1 {k : Nat} (h0 : 0 < k) (h : k < 2 ^ 31) : nI k - 1 = nI (k - 1) := by
  obtain ⟨m, rfl⟩ : ∃ m, k = m + 1 := ⟨k - 1, by omega⟩
  rw [nI_pred]; rfl
section SORT
variable {sc : Scr} {d : Nat} {W : AW} {X h : PH} {c : Nat} {Q : Out → PH → Prop}
theorem di_loop {call : Callee} (hc : call = wpC sc (d + 2)) (hc0 : c < 10) (hb : ∀ v ∈ W.1 (2 * c + 1), inV v) (hl48 : (W.1 (2 * c + 1)).length ≤ 48)
    (hQ : ∀ h, Rep (sl W (2 * c + 1) ((W.1 (2 * c + 1)).filter nid)) X h → Q (.inl none) h) :
    ∀ (k : Nat) (h : PH), k ≤ (W.1 (2 * c + 1)).length → Rep (sl W (2 * c + 1) ((W.1 (2 * c + 1)).take k ++ ((W.1 (2 * c + 1)).drop k).filter nid)) X h →
    Runs (d + 2) call sc m_X0_dropIdle Q 10 [(0, .ref (cid c)), (1, .int (nI k - 1))] [] h 0 0 := by
  intro k
  induction k with
  | zero =>
    intro h hk hr
    rw [List.take_zero, List.nil_append, List.drop_zero] at hr
    refine go hc 2 (fun K hK => ?_)
    conv => whnf
    refine ⟨fun c_ => ?_, fun c_ => absurd (by decide) c_⟩
    conv => whnf
    refine hK _ _ _ _ _ _ (go hc 1 (fun K hK => ?_))
    conv => whnf
    exact hQ h hr
  | succ k ih =>
    intro h hk hr
    have hkl : k < (W.1 (2 * c + 1)).length := by omega
    have hb1 := hb _ (gt_mem hkl)
    have ihh := ih h (by omega)
    generalize hL : (W.1 (2 * c + 1)).take (k + 1) ++ ((W.1 (2 * c + 1)).drop (k + 1)).filter nid = l1 at hr
    have hg : gt ((sl W (2 * c + 1) l1).1 (2 * c + 1)) k = gt (W.1 (2 * c + 1)) k := by
      rw [sl_self, ← hL]
      refine gt_of ?_
      rw [List.getElem?_append_left (by rw [List.length_take]; omega), List.getElem?_take, if_pos (by omega)]
      exact gt_some hkl
    have hlen : k < ((sl W (2 * c + 1) l1).1 (2 * c + 1)).length := by
      rw [sl_self, ← hL, List.length_append, List.length_take]; omega
    rw [drop_gt hkl, List.filter_cons] at ihh
    rw [take_gt hkl, List.append_assoc] at hL
    rw [nI_pred]
    refine go hc 2 (fun K hK => ?_)
    conv => whnf
    refine ⟨fun c_ => absurd c_ (nI_pos (by omega)), fun c_ => ?_⟩
    conv => whnf
    refine hK _ _ _ _ _ _ (go hc 8 (fun K hK => ?_))
    conv => whnf
    refine ⟨_, _, hr.C _ (by omega), rfl, ?_⟩
    conv => whnf
    refine ⟨_, hr.R _ (by omega), Nat.le_of_ble_eq_true rfl, ?_⟩
    conv => whnf
    refine callee hc (r_at1 hr (by omega) (by omega) ?_)
    conv => whnf
    rw [hg]
    by_cases h1 : (gt (W.1 (2 * c + 1)) k).2.1 = 0
    · refine ⟨fun c_ => ?_, fun c_ => absurd ((kEq0 hb1.2.1).mpr h1) c_⟩
      conv => whnf
      refine hK _ _ _ _ _ _ (go hc 8 (fun K hK => ?_))
      conv => whnf
      refine ⟨_, _, hr.C _ (by omega), rfl, ?_⟩
      conv => whnf
      refine ⟨_, hr.R _ (by omega), Nat.le_of_ble_eq_true rfl, ?_⟩
      conv => whnf
      refine callee hc (r_at2 hr (by omega) (by omega) ?_)
      conv => whnf
      rw [hg]
      by_cases h2 : (gt (W.1 (2 * c + 1)) k).2.2 = 0
      · refine ⟨fun c_ => ?_, fun c_ => absurd ((kEq0 hb1.2.2).mpr h2) c_⟩
        conv => whnf
        refine hK _ _ _ _ _ _ (go hc 6 (fun K hK => ?_))
        conv => whnf
        refine ⟨_, _, hr.C _ (by omega), rfl, ?_⟩
        conv => whnf
        refine ⟨_, hr.R _ (by omega), Nat.le_of_ble_eq_true rfl, ?_⟩
        conv => whnf
        refine callee hc (r_remove hr (by omega) (by omega) ?_)
        intro h hr
        conv => whnf
        rw [if_neg (by unfold nid; simp [h1, h2])] at ihh
        rw [nI_dec']
        have e : l1.eraseIdx k = (W.1 (2 * c + 1)).take k ++ ((W.1 (2 * c + 1)).drop (k + 1)).filter nid := by
          rw [← hL, List.eraseIdx_append_of_length_le (by rw [List.length_take]; omega), List.length_take, show k - min k (W.1 (2 * c + 1)).length = 0 by omega]; rfl
        rw [sl_self, sl_sl, e] at hr
        try simp only [nI_1]
        refine hK _ _ _ _ _ _ (Runs.less hc [0, 1] rfl rfl rfl rfl (ih h (by omega) (by rw [drop_gt hkl, List.filter_cons, if_neg (by unfold nid; simp [h1, h2])]; exact hr)))
      · refine ⟨fun c_ => absurd c_ (fun q => h2 ((kEq0 hb1.2.2).mp q)), fun c_ => ?_⟩
        conv => whnf
        refine hK _ _ _ _ _ _ (go hc 2 (fun K hK => ?_))
        conv => whnf
        rw [if_pos (by unfold nid; simp [h2])] at ihh
        rw [nI_dec']
        try simp only [nI_1]
        refine hK _ _ _ _ _ _ (Runs.less hc [0, 1] rfl rfl rfl rfl (ihh (by rw [← hL] at hr; exact hr)))
    · refine ⟨fun c_ => absurd c_ (fun q => h1 ((kEq0 hb1.2.1).mp q)), fun c_ => ?_⟩
      conv => whnf
      refine hK _ _ _ _ _ _ (go hc 2 (fun K hK => ?_))
      conv => whnf
      rw [if_pos (by unfold nid; simp [h1])] at ihh
      rw [nI_dec']
      try simp only [nI_1]
      refine hK _ _ _ _ _ _ (Runs.less hc [0, 1] rfl rfl rfl rfl (ihh (by rw [← hL] at hr; exact hr)))
theorem r_dropIdle (hr : Rep W X h) (hc0 : c < 10) (hb : ∀ v ∈ W.1 (2 * c + 1), inV v) (hQ : ∀ h, Rep (sl W (2 * c + 1) ((W.1 (2 * c + 1)).filter nid)) X h → Q (.inl none) h) : wpC sc (d + 3) 10 [.ref (cid c)] h Q := by
  refine enter rfl rfl (fun call hc => go hc 6 (fun K hK => ?_))
  conv => whnf
  refine ⟨_, _, hr.C _ (by omega), rfl, ?_⟩
  conv => whnf
  refine ⟨_, hr.R _ (by omega), Nat.le_of_ble_eq_true rfl, ?_⟩
  conv => whnf
  refine callee hc (r_count hr (by omega) ?_)
  conv => whnf
  try simp only [nI_1]
  refine hK _ _ _ _ _ _ (Runs.less hc [0, 1] rfl rfl rfl rfl (di_loop (Q := qth _ Q) hc hc0 hb (hr.c48 (by omega)) hQ (W.1 (2 * c + 1)).length h (Nat.le_refl _) (by rw [List.take_length, List.drop_length, List.filter_nil, List.append_nil, sl_id]; exact hr)))
def swp (l : List V3) (i k : Nat) : List V3 := (l.set i (gt l k)).set k (gt l i)
theorem swp_len (l : List V3) (i k : Nat) : (swp l i k).length = l.length := by unfold swp; rw [List.length_set, List.length_set]
theorem swp_mem {l : List V3} {i k : Nat} (hi : i < l.length) (hk : k < l.length) {v : V3} (hv : v ∈ swp l i k) : v ∈ l := by
  unfold swp at hv
  rcases List.mem_or_eq_of_mem_set hv with h | h
  · rcases List.mem_or_eq_of_mem_set h with h | h
    · exact h
    · rw [h]; exact gt_mem hk
  · rw [h]; exact gt_mem hi
def sink (c : Nat) : Nat → List V3 → List V3
  | 0, l => l
  | k + 1, l => if bf c (gt l (k + 1)) (gt l k) = true then sink c k (swp l (k + 1) k) else l
theorem sink_len (c : Nat) : ∀ (k : Nat) (l : List V3), (sink c k l).length = l.length
  | 0, _ => rfl
  | k + 1, l => by
    unfold sink
    split
    · rw [sink_len c k, swp_len]
    · rfl
theorem sink_mem (c : Nat) : ∀ (k : Nat) (l : List V3), k < l.length → ∀ v, v ∈ sink c k l → v ∈ l
  | 0, _, _, _, hv => hv
  | k + 1, l, hk, v, hv => by
    unfold sink at hv
    split at hv
    · exact swp_mem hk (by omega) (sink_mem c k _ (by rw [swp_len]; omega) v hv)
    · exact hv
def srtN (c : Nat) : Nat → Nat → List V3 → List V3
  | 0, _, l => l
  | n + 1, i, l => srtN c n (i + 1) (sink c i l)
def sortE (c : Nat) (l : List V3) : List V3 := srtN c (l.length - 1) 1 l
theorem so_in {call : Callee} (hc : call = wpC sc (d + 3)) (hc0 : c < 10) {i : Nat} :
    ∀ (k : Nat) (W : AW) (h : PH), k < (W.1 (2 * c + 1)).length → (∀ v ∈ W.1 (2 * c + 1), bdV BD v) → Rep W X h →
    (∀ h, Rep (sl W (2 * c + 1) (sink c k (W.1 (2 * c + 1)))) X h → Runs (d + 3) call sc m_X0_sortEdges Q 2 [(0, .ref (cid c)), (1, .int (nI (i + 1)))] [] h 0 0) →
    Runs (d + 3) call sc m_X0_sortEdges Q 15 [(0, .ref (cid c)), (1, .int (nI i)), (2, .int (nI k))] [] h 0 0 := by
  intro k
  induction k with
  | zero =>
    intro W h hk hb hr hQ
    refine go hc 2 (fun K hK => ?_)
    conv => whnf
    refine ⟨fun c_ => ?_, fun c_ => absurd (by decide) c_⟩
    conv => whnf
    refine hK _ _ _ _ _ _ (go hc 2 (fun K hK => ?_))
    conv => whnf
    try simp only [nI_1]
    refine hK _ _ _ _ _ _ (Runs.less hc [0, 1] rfl rfl rfl rfl (hQ h (by unfold sink; rw [sl_id]; exact hr)))
  | succ k ih =>
    intro W h hk hb hr hQ
    have h48 := hr.c48 (show 2 * c + 1 < 21 by omega)
    unfold sink at hQ
    refine go hc 2 (fun K hK => ?_)
    conv => whnf
    refine ⟨fun c_ => absurd c_ (nI_nle (by omega) (by omega)), fun c_ => ?_⟩
    conv => whnf
    refine hK _ _ _ _ _ _ (go hc 7 (fun K hK => ?_))
    conv => whnf
    refine ⟨_, hr.C _ (by omega), Nat.le_of_ble_eq_true rfl, ?_⟩
    conv => whnf
    rw [nI_pred]
    refine callee hc (r_isBefore hr hc0 hk (by omega) hb ?_)
    conv => whnf
    by_cases h1 : bf c (gt (W.1 (2 * c + 1)) (k + 1)) (gt (W.1 (2 * c + 1)) k) = true
    · rw [h1]
      rw [if_pos h1] at hQ
      refine ⟨fun c_ => absurd c_ (by decide), fun c_ => ?_⟩
      conv => whnf
      refine hK _ _ _ _ _ _ (go hc 9 (fun K hK => ?_))
      conv => whnf
      refine ⟨_, _, hr.C _ (by omega), rfl, ?_⟩
      conv => whnf
      refine ⟨_, hr.R _ (by omega), Nat.le_of_ble_eq_true rfl, ?_⟩
      conv => whnf
      rw [nI_pred]
      refine callee hc (r_swap hr (by omega) hk (by omega) ?_)
      intro h hr
      change Rep (sl W (2 * c + 1) (swp (W.1 (2 * c + 1)) (k + 1) k)) X h at hr
      conv => whnf
      rw [nI_dec]
      try simp only [nI_1]
      refine hK _ _ _ _ _ _ (Runs.less hc [0, 1, 2] rfl rfl rfl rfl (ih _ h (by rw [sl_self, swp_len]; omega) (by rw [sl_self]; exact fun v hv => hb v (swp_mem hk (by omega) hv)) hr (by rw [sl_self, sl_sl]; exact hQ)))
    · rw [(Bool.not_eq_true _).mp h1]
      rw [if_neg h1, sl_id] at hQ
      refine ⟨fun c_ => ?_, fun c_ => absurd (rfl) c_⟩
      conv => whnf
      refine hK _ _ _ _ _ _ (go hc 2 (fun K hK => ?_))
      conv => whnf
      try simp only [nI_1]
      refine hK _ _ _ _ _ _ (Runs.less hc [0, 1] rfl rfl rfl rfl (hQ h hr))
theorem so_out {call : Callee} (hc : call = wpC sc (d + 3)) (hc0 : c < 10) :
    ∀ (n i : Nat) (W : AW) (h : PH), 0 < i → i + n = (W.1 (2 * c + 1)).length ∨ (n = 0 ∧ (W.1 (2 * c + 1)).length ≤ i) → i ≤ 60 → (∀ v ∈ W.1 (2 * c + 1), bdV BD v) → Rep W X h →
    (∀ h, Rep (sl W (2 * c + 1) (srtN c n i (W.1 (2 * c + 1)))) X h → Q (.inl none) h) →
    Runs (d + 3) call sc m_X0_sortEdges Q 2 [(0, .ref (cid c)), (1, .int (nI i))] [] h 0 0 := by
  intro n
  induction n with
  | zero =>
    intro i W h h0 hi h60 hb hr hQ
    unfold srtN at hQ
    rw [sl_id] at hQ
    have h48 := hr.c48 (show 2 * c + 1 < 21 by omega)
    refine go hc 5 (fun K hK => ?_)
    conv => whnf
    refine ⟨_, _, hr.C _ (by omega), rfl, ?_⟩
    conv => whnf
    refine ⟨_, hr.R _ (by omega), Nat.le_of_ble_eq_true rfl, ?_⟩
    conv => whnf
    refine callee hc (r_count hr (by omega) ?_)
    conv => whnf
    refine ⟨fun c_ => ?_, fun c_ => absurd (nI_le (by omega) (by omega)) c_⟩
    conv => whnf
    refine hK _ _ _ _ _ _ (go hc 1 (fun K hK => ?_))
    conv => whnf
    exact hQ h hr
  | succ n ih =>
    intro i W h h0 hi h60 hb hr hQ
    unfold srtN at hQ
    have h48 := hr.c48 (show 2 * c + 1 < 21 by omega)
    have hil : i < (W.1 (2 * c + 1)).length := by omega
    refine go hc 5 (fun K hK => ?_)
    conv => whnf
    refine ⟨_, _, hr.C _ (by omega), rfl, ?_⟩
    conv => whnf
    refine ⟨_, hr.R _ (by omega), Nat.le_of_ble_eq_true rfl, ?_⟩
    conv => whnf
    refine callee hc (r_count hr (by omega) ?_)
    conv => whnf
    refine ⟨fun c_ => absurd c_ (nI_ge hil (by omega)), fun c_ => ?_⟩
    conv => whnf
    refine hK _ _ _ _ _ _ (go hc 2 (fun K hK => ?_))
    conv => whnf
    try simp only [nI_1]
    refine hK _ _ _ _ _ _ (Runs.less hc [0, 1, 2] rfl rfl rfl rfl (so_in hc hc0 i W h hil hb hr (fun h hr => ih (i + 1) _ h (by omega) (by rw [sl_self, sink_len]; omega) (by omega) (by rw [sl_self]; exact fun v hv => hb v (sink_mem c i _ hil v hv)) hr (by rw [sl_self, sl_sl]; exact hQ))))
theorem r_sortEdges (hr : Rep W X h) (hc0 : c < 10) (hb : ∀ v ∈ W.1 (2 * c + 1), bdV BD v) (hQ : ∀ h, Rep (sl W (2 * c + 1) (sortE c (W.1 (2 * c + 1)))) X h → Q (.inl none) h) : wpC sc (d + 4) 11 [.ref (cid c)] h Q := by
  refine enter rfl rfl (fun call hc => go hc 2 (fun K hK => ?_))
  conv => whnf
  try simp only [nI_1]
  refine hK _ _ _ _ _ _ (Runs.less hc [0, 1] rfl rfl rfl rfl (so_out (Q := qth _ Q) hc hc0 ((W.1 (2 * c + 1)).length - 1) 1 W h (by omega) (by omega) (by omega) hb hr hQ))
end SORT
