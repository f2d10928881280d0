section ROWS4
variable {sc : Scr} {d : Nat} {W : AW} {X h : PH} {j : Nat} {Q : Out → PH → Prop}
def rmF (l : List V3) (i q : Nat) (v : V3) : V3 := if i ≤ q then gt l (q + 1) else v
theorem rm_end {l : List V3} {i : Nat} (hi : i < l.length) : (part (rmF l i) l (l.length - 1)).take (l.length - 1) = l.eraseIdx i := by
  refine gt_ext (by rw [List.length_take, part_len, List.length_eraseIdx, if_pos hi]; omega) fun q hq => ?_
  rw [List.length_take, part_len] at hq
  have h1 : gt ((part (rmF l i) l (l.length - 1)).take (l.length - 1)) q = gt (part (rmF l i) l (l.length - 1)) q := by
    unfold gt
    rw [List.getD_eq_getElem?_getD, List.getD_eq_getElem?_getD, List.getElem?_take, if_pos (by omega)]
  rw [h1, gt_part (by omega), if_pos (by omega)]
  unfold rmF gt
  rw [List.getD_eq_getElem?_getD, List.getD_eq_getElem?_getD, List.getD_eq_getElem?_getD, List.getElem?_eraseIdx]
  by_cases h2 : i ≤ q
  · rw [if_pos h2, if_neg (by omega)]
  · rw [if_neg h2, if_pos (by omega)]
theorem rm_loop {call : Callee} (hc : call = wpC sc (d + 1)) {i : Nat} (hj : j < 21) (hi : i < (W.1 j).length) (hl48 : (W.1 j).length ≤ 48)
    (hQ : ∀ h, Rep (sl W j ((W.1 j).eraseIdx i)) X h → Q (.inl none) h) :
    ∀ (n k : Nat) (h : PH), k + 1 + n = (W.1 j).length → i ≤ k → Rep (sl W j (part (rmF (W.1 j) i) (W.1 j) k)) X h →
    Runs (d + 1) call sc m_X1_remove Q 2 [(0, .ref (rid j)), (1, .int (nI i)), (2, .int (nI k))] [] h 0 0 := by
  intro n
  induction n with
  | zero =>
    intro k h hk hik hr
    have hlen : ((sl W j (part (rmF (W.1 j) i) (W.1 j) k)).1 j).length = k + 1 := by rw [sl_self, part_len]; omega
    refine go hc 6 (fun K hK => ?_)
    conv => whnf
    refine ⟨_, _, hr.R _ (by omega), rfl, ?_⟩
    conv => whnf
    rw [hlen, nI_1]
    refine ⟨fun c_ => ?_, fun c_ => absurd (nI_le (Nat.le_refl _) (by omega)) c_⟩
    conv => whnf
    refine hK _ _ _ _ _ _ (go hc 4 (fun K hK => ?_))
    conv => whnf
    refine ⟨_, _, hr.R _ (by omega), rfl, ?_⟩
    conv => whnf
    rw [hlen]
    refine ⟨fun c_ => absurd c_ (nI_nle (by omega) (by omega)), fun c_ => ?_⟩
    conv => whnf
    refine hK _ _ _ _ _ _ (go hc 7 (fun K hK => ?_))
    conv => whnf
    refine ⟨_, _, hr.R _ (by omega), rfl, ?_⟩
    conv => whnf
    refine ⟨_, hr.R _ (by omega), Nat.le_of_ble_eq_true rfl, ?_⟩
    refine (?_ : _)
    conv => whnf
    rw [hlen, nI_pred]
    have ht := hr.trunc j hj (n := k) (by rw [hlen]; omega)
    rw [sl_sl, sl_self, show k = (W.1 j).length - 1 by omega, rm_end hi] at ht
    exact hQ _ (by rw [show k = (W.1 j).length - 1 by omega]; exact ht)
  | succ n ih =>
    intro k h hk hik hr
    have hlen : ((sl W j (part (rmF (W.1 j) i) (W.1 j) k)).1 j).length = (W.1 j).length := by rw [sl_self, part_len]
    have hg : gt ((sl W j (part (rmF (W.1 j) i) (W.1 j) k)).1 j) (k + 1) = gt (W.1 j) (k + 1) := by rw [sl_self, gt_part (by omega), if_neg (by omega)]
    refine go hc 6 (fun K hK => ?_)
    conv => whnf
    refine ⟨_, _, hr.R _ (by omega), rfl, ?_⟩
    conv => whnf
    rw [hlen, nI_1]
    refine ⟨fun c_ => absurd c_ (nI_ge (by omega) (by omega)), fun c_ => ?_⟩
    conv => whnf
    refine hK _ _ _ _ _ _ (go hc 23 (fun K hK => ?_))
    conv => whnf
    refine ⟨_, hr.R _ (by omega), Nat.le_of_ble_eq_true rfl, ?_⟩
    conv => whnf
    rw [nI_1]
    refine callee hc (r_at0 hr (by omega) (by omega) ?_)
    conv => whnf
    refine ⟨_, hr.R _ (by omega), Nat.le_of_ble_eq_true rfl, ?_⟩
    conv => whnf
    rw [nI_1]
    refine callee hc (r_at1 hr (by omega) (by omega) ?_)
    conv => whnf
    refine ⟨_, hr.R _ (by omega), Nat.le_of_ble_eq_true rfl, ?_⟩
    conv => whnf
    rw [nI_1]
    refine callee hc (r_at2 hr (by omega) (by omega) ?_)
    conv => whnf
    refine ⟨_, hr.R _ (by omega), Nat.le_of_ble_eq_true rfl, ?_⟩
    conv => whnf
    refine callee hc (r_write hr (gt (W.1 j) (k + 1)) hj (by omega) (by rw [hg]) (by rw [hg]) (by rw [hg]) ?_)
    intro h hr
    rw [sl_sl, sl_self, part_set (by omega) (by unfold rmF; rw [if_pos hik])] at hr
    conv => whnf
    try simp only [nI_1]
    refine hK _ _ _ _ _ _ (Runs.less hc [0, 1, 2] rfl rfl rfl rfl (ih _ _ (by omega) (by omega) hr))
theorem r_remove (hr : Rep W X h) {i : Nat} (hj : j < 21) (hi : i < (W.1 j).length) (hQ : ∀ h, Rep (sl W j ((W.1 j).eraseIdx i)) X h → Q (.inl none) h) : wpC sc (d + 2) 25 [.ref (rid j), .int (nI i)] h Q := by
  have e : part (rmF (W.1 j) i) (W.1 j) i = W.1 j := by
    refine gt_ext (part_len _ _ _) fun q hq => ?_
    rw [part_len] at hq
    rw [gt_part hq]
    unfold rmF
    split
    · rw [if_neg (by omega)]
    · rfl
  refine enter rfl rfl (fun call hc => go hc 2 (fun K hK => ?_))
  conv => whnf
  try simp only [nI_1]
  refine hK _ _ _ _ _ _ (Runs.less hc [0, 1, 2] rfl rfl rfl rfl (rm_loop (Q := qth _ Q) hc hj hi (hr.c48 hj) hQ ((W.1 j).length - 1 - i) i h (by omega) (Nat.le_refl _) (by rw [e, sl_id]; exact hr)))
/-- the first row from i on that has something in the column -/
def fw (l : List V3) (col : Nat) : Nat → Nat → Option Nat
  | 0, _ => none
  | n + 1, i => if cmp3 (gt l i) col = 0 then fw l col n (i + 1) else some i
def fwI : Option Nat → Int32
  | some i => nI i
  | none => -1
theorem fw_loop {call : Callee} (hc : call = wpC sc (d + 1)) (hr : Rep W X h) {col : Nat} {f0 : Int32} (hj : j < 21) (hcol : col < 3) (hb : ∀ v ∈ W.1 j, inL (cmp3 v col)) :
    ∀ (n i : Nat), i + n = (W.1 j).length → Q (.inl (some (.int (fwI (fw (W.1 j) col n i))))) h →
    Runs (d + 1) call sc m_X1_firstWith Q 2 [(0, .ref (rid j)), (1, .int (nI col)), (2, .int f0), (3, .int (nI i))] [] h 0 0 := by
  have hl48 := hr.c48 hj
  intro n
  induction n with
  | zero =>
    intro i hi hQ
    refine go hc 4 (fun K hK => ?_)
    conv => whnf
    refine ⟨_, _, hr.R _ (by omega), rfl, ?_⟩
    conv => whnf
    refine ⟨fun c_ => ?_, fun c_ => absurd (nI_le (by omega) (by omega)) c_⟩
    conv => whnf
    refine hK _ _ _ _ _ _ (go hc 2 (fun K hK => ?_))
    conv => whnf
    exact hQ
  | succ n ih =>
    intro i hi hQ
    unfold fw at hQ
    have hb1 := hb _ (gt_mem (show i < (W.1 j).length by omega))
    refine go hc 4 (fun K hK => ?_)
    conv => whnf
    refine ⟨_, _, hr.R _ (by omega), rfl, ?_⟩
    conv => whnf
    refine ⟨fun c_ => absurd c_ (nI_ge (by omega) (by omega)), fun c_ => ?_⟩
    conv => whnf
    refine hK _ _ _ _ _ _ (go hc 7 (fun K hK => ?_))
    conv => whnf
    refine ⟨_, hr.R _ (by omega), Nat.le_of_ble_eq_true rfl, ?_⟩
    conv => whnf
    refine callee hc (r_atK hr (by omega) (by omega) (by omega) ?_)
    conv => whnf
    by_cases hz : cmp3 (gt (W.1 j) i) col = 0
    · rw [if_pos hz] at hQ
      refine ⟨fun c_ => ?_, fun c_ => absurd ((kEq0 hb1).mpr hz) c_⟩
      conv => whnf
      refine hK _ _ _ _ _ _ (go hc 2 (fun K hK => ?_))
      conv => whnf
      try simp only [nI_1]
      refine hK _ _ _ _ _ _ (Runs.less hc [0, 1, 2, 3] rfl rfl rfl rfl (ih _ (by omega) hQ))
    · rw [if_neg hz] at hQ
      refine ⟨fun c_ => absurd c_ (fun q => hz ((kEq0 hb1).mp q)), fun c_ => ?_⟩
      conv => whnf
      refine hK _ _ _ _ _ _ (go hc 2 (fun K hK => ?_))
      conv => whnf
      exact hQ
theorem r_firstWith (hr : Rep W X h) {i col : Nat} (hj : j < 21) (hcol : col < 3) (hi : i ≤ (W.1 j).length) (hb : ∀ v ∈ W.1 j, inL (cmp3 v col)) (hQ : Q (.inl (some (.int (fwI (fw (W.1 j) col ((W.1 j).length - i) i))))) h) : wpC sc (d + 2) 31 [.ref (rid j), .int (nI col), .int (nI i)] h Q := by
  refine enter rfl rfl (fun call hc => go hc 2 (fun K hK => ?_))
  conv => whnf
  try simp only [nI_1]
  refine hK _ _ _ _ _ _ (Runs.less hc [0, 1, 2, 3] rfl rfl rfl rfl (fw_loop (Q := qth _ Q) hc hr hj hcol hb _ _ (by omega) hQ))
/-- no number beyond 30 -/
def ok30 (a : Int) : Prop := -30 ≤ a ∧ a ≤ 30
theorem iw_in {call : Callee} (hc : call = wpC sc (d + 1)) (hr : Rep W X h) {i : Nat} (hj : j < 21) (hi : i < (W.1 j).length) (hb : ∀ v ∈ W.1 j, inV v) :
    ∀ (n c : Nat), c + n = 3 → ((∃ q, q < 3 ∧ ¬ ok30 (cmp3 (gt (W.1 j) i) q)) → Q (.inl (some (.int 0))) h) →
    ((∀ q, c ≤ q → q < 3 → ok30 (cmp3 (gt (W.1 j) i) q)) → Runs (d + 1) call sc m_X1_isWithin Q 2 [(0, .ref (rid j)), (1, .long 30), (3, .int (nI (i + 1)))] [] h 0 0) →
    Runs (d + 1) call sc m_X1_isWithin Q 13 [(0, .ref (rid j)), (1, .long 30), (3, .int (nI i)), (4, .int (nI c))] [] h 0 0 := by
  have hl48 := hr.c48 hj
  intro n
  induction n with
  | zero =>
    intro c hcn h0 h1
    refine go hc 3 (fun K hK => ?_)
    conv => whnf
    refine ⟨fun c_ => ?_, fun c_ => absurd (nI_le (a := 3) (by omega) (by omega)) c_⟩
    conv => whnf
    refine hK _ _ _ _ _ _ (go hc 2 (fun K hK => ?_))
    conv => whnf
    try simp only [nI_1]
    refine hK _ _ _ _ _ _ (Runs.less hc [0, 1, 3] rfl rfl rfl rfl (h1 fun q _ _ => by omega))
  | succ n ih =>
    intro c hcn h0 h1
    have hb0 := hb _ (gt_mem hi)
    have hb1 : inL (cmp3 (gt (W.1 j) i) c) := by
      match c, (show c < 3 by omega) with
      | 0, _ => exact hb0.1
      | 1, _ => exact hb0.2.1
      | 2, _ => exact hb0.2.2
    have i30 : inL 30 := ⟨by decide, by decide⟩
    have im30 : inL (-30) := ⟨by decide, by decide⟩
    refine go hc 3 (fun K hK => ?_)
    conv => whnf
    refine ⟨fun c_ => absurd c_ (nI_ge (b := 3) (by omega) (by omega)), fun c_ => ?_⟩
    conv => whnf
    refine hK _ _ _ _ _ _ (go hc 8 (fun K hK => ?_))
    conv => whnf
    refine ⟨_, hr.R _ (by omega), Nat.le_of_ble_eq_true rfl, ?_⟩
    conv => whnf
    refine callee hc (r_atK hr (by omega) (by omega) (by omega) ?_)
    conv => whnf
    by_cases hlo : cmp3 (gt (W.1 j) i) c < -30
    · refine ⟨fun c_ => ?_, fun c_ => absurd ((kLt hb1 im30).mpr hlo) c_⟩
      conv => whnf
      refine hK _ _ _ _ _ _ (go hc 2 (fun K hK => ?_))
      conv => whnf
      exact ⟨Or.inl rfl, h0 ⟨c, by omega, fun q => by have := q.1; omega⟩⟩
    · refine ⟨fun c_ => absurd c_ (fun q => hlo ((kLt hb1 im30).mp q)), fun c_ => ?_⟩
      conv => whnf
      refine hK _ _ _ _ _ _ (go hc 7 (fun K hK => ?_))
      conv => whnf
      refine ⟨_, hr.R _ (by omega), Nat.le_of_ble_eq_true rfl, ?_⟩
      conv => whnf
      refine callee hc (r_atK hr (by omega) (by omega) (by omega) ?_)
      conv => whnf
      by_cases hhi : cmp3 (gt (W.1 j) i) c ≤ 30
      · refine ⟨fun c_ => ?_, fun c_ => absurd ((kLe hb1 i30).mpr hhi) c_⟩
        conv => whnf
        refine hK _ _ _ _ _ _ (go hc 2 (fun K hK => ?_))
        conv => whnf
        try simp only [nI_1]
        refine hK _ _ _ _ _ _ (Runs.less hc [0, 1, 3, 4] rfl rfl rfl rfl (ih _ (by omega) h0 (fun hq => h1 fun q h2 h3 => if e : q = c then by rw [e]; exact ⟨by omega, hhi⟩ else hq q (by omega) h3)))
      · refine ⟨fun c_ => absurd c_ (fun q => hhi ((kLe hb1 i30).mp q)), fun c_ => ?_⟩
        conv => whnf
        refine hK _ _ _ _ _ _ (go hc 2 (fun K hK => ?_))
        conv => whnf
        exact ⟨Or.inl rfl, h0 ⟨c, by omega, fun q => hhi q.2⟩⟩
def ok3 (v : V3) : Prop := ∀ q, q < 3 → ok30 (cmp3 v q)
theorem iw_loop {call : Callee} (hc : call = wpC sc (d + 1)) (hr : Rep W X h) (hj : j < 21) (hb : ∀ v ∈ W.1 j, inV v)
    (h0 : ¬ (∀ v ∈ W.1 j, ok3 v) → Q (.inl (some (.int 0))) h) (h1 : (∀ v ∈ W.1 j, ok3 v) → Q (.inl (some (.int 1))) h) :
    ∀ (n i : Nat), i + n = (W.1 j).length → (∀ q, q < i → ok3 (gt (W.1 j) q)) →
    Runs (d + 1) call sc m_X1_isWithin Q 2 [(0, .ref (rid j)), (1, .long 30), (3, .int (nI i))] [] h 0 0 := by
  have hl48 := hr.c48 hj
  intro n
  induction n with
  | zero =>
    intro i hi hok
    refine go hc 4 (fun K hK => ?_)
    conv => whnf
    refine ⟨_, _, hr.R _ (by omega), rfl, ?_⟩
    conv => whnf
    refine ⟨fun c_ => ?_, fun c_ => absurd (nI_le (by omega) (by omega)) c_⟩
    conv => whnf
    refine hK _ _ _ _ _ _ (go hc 2 (fun K hK => ?_))
    conv => whnf
    refine ⟨Or.inr rfl, h1 fun v hv => ?_⟩
    obtain ⟨q, hq⟩ := List.getElem?_of_mem hv
    rw [← gt_of hq]
    exact hok q (by have := (List.getElem?_eq_some_iff.mp hq).1; omega)
  | succ n ih =>
    intro i hi hok
    refine go hc 4 (fun K hK => ?_)
    conv => whnf
    refine ⟨_, _, hr.R _ (by omega), rfl, ?_⟩
    conv => whnf
    refine ⟨fun c_ => absurd c_ (nI_ge (by omega) (by omega)), fun c_ => ?_⟩
    conv => whnf
    refine hK _ _ _ _ _ _ (go hc 2 (fun K hK => ?_))
    conv => whnf
    try simp only [nI_1]
    refine hK _ _ _ _ _ _ (Runs.less hc [0, 1, 3, 4] rfl rfl rfl rfl (iw_in hc hr hj (by omega) hb 3 0 (by omega) (fun hq => h0 fun ha => by obtain ⟨q, q1, q2⟩ := hq; exact q2 (ha _ (gt_mem (by omega)) q q1)) (fun hq => ih _ (by omega) fun q h2 => if e : q = i then by rw [e]; exact fun r hr => hq r (Nat.zero_le _) hr else hok q (by omega))))
theorem r_isWithin (hr : Rep W X h) (hj : j < 21) (hb : ∀ v ∈ W.1 j, inV v) (h0 : ¬ (∀ v ∈ W.1 j, ok3 v) → Q (.inl (some (.int 0))) h) (h1 : (∀ v ∈ W.1 j, ok3 v) → Q (.inl (some (.int 1))) h) : wpC sc (d + 2) 32 [.ref (rid j), .long 30] h Q := by
  refine enter rfl rfl (fun call hc => go hc 2 (fun K hK => ?_))
  conv => whnf
  try simp only [nI_1]
  refine hK _ _ _ _ _ _ (Runs.less hc [0, 1, 3] rfl rfl rfl rfl (iw_loop (Q := qth _ Q) hc hr hj hb h0 h1 (W.1 j).length 0 (by omega) (fun q hq => absurd hq (by omega))))
end ROWS4
