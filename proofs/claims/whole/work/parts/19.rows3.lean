/-! loops over rows -/
def part (f : Nat → V3 → V3) (l : List V3) (n : Nat) : List V3 := l.mapIdx (fun q v => if q < n then f q v else v)
theorem part_len (f : Nat → V3 → V3) (l : List V3) (n : Nat) : (part f l n).length = l.length := by unfold part; rw [List.length_mapIdx]
theorem gt_mapIdx {f : Nat → V3 → V3} {l : List V3} {i : Nat} (h : i < l.length) : gt (l.mapIdx f) i = f i (gt l i) := by
  refine gt_of ?_
  rw [List.getElem?_mapIdx, gt_some h]; rfl
theorem gt_part {f : Nat → V3 → V3} {l : List V3} {n i : Nat} (h : i < l.length) : gt (part f l n) i = if i < n then f i (gt l i) else gt l i := by
  unfold part
  rw [gt_mapIdx h]
theorem part_0 (f : Nat → V3 → V3) (l : List V3) : part f l 0 = l := by
  refine gt_ext (part_len f l 0) fun i hi => ?_
  rw [part_len] at hi
  rw [gt_part hi, if_neg (by omega)]
theorem part_set {f : Nat → V3 → V3} {l : List V3} {i : Nat} (h : i < l.length) {v : V3} (hv : v = f i (gt l i)) : (part f l i).set i v = part f l (i + 1) := by
  refine gt_ext (by rw [List.length_set, part_len, part_len]) fun q hq => ?_
  rw [List.length_set, part_len] at hq
  rw [gt_set (by rw [part_len]; exact h), gt_part hq, gt_part hq]
  by_cases h1 : i = q
  · subst h1
    rw [if_pos rfl, if_pos (by omega), hv]
  · rw [if_neg h1]
    by_cases h2 : q < i
    · rw [if_pos h2, if_pos (by omega)]
    · rw [if_neg h2, if_neg (by omega)]
theorem part_skip {f : Nat → V3 → V3} {l : List V3} {i : Nat} (hv : i < l.length → f i (gt l i) = gt l i) : part f l i = part f l (i + 1) := by
  refine gt_ext (by rw [part_len, part_len]) fun q hq => ?_
  rw [part_len] at hq
  rw [gt_part hq, gt_part hq]
  by_cases h2 : q < i
  · rw [if_pos h2, if_pos (by omega)]
  · rw [if_neg h2]
    by_cases h3 : q = i
    · subst h3; rw [if_pos (by omega), hv hq]
    · rw [if_neg (by omega)]
theorem part_all (f : Nat → V3 → V3) (l : List V3) : part f l l.length = l.mapIdx f := by
  refine gt_ext (by rw [part_len, List.length_mapIdx]) fun q hq => ?_
  rw [part_len] at hq
  rw [gt_part hq, gt_mapIdx hq, if_pos hq]
section ROWS3
variable {sc : Scr} {d : Nat} {W : AW} {X h : PH} {j : Nat} {Q : Out → PH → Prop}
def ccF (col : Nat) (sp : Int32) (u : V3) (i : Nat) (v : V3) : V3 := if nI i = sp ∨ cmp3 v col = 0 then v else mixV (cmp3 u col) (-(cmp3 v col)) v u
theorem cc_loop {call : Callee} (hc : call = wpC sc (d + 2)) {o k col : Nat} {sp : Int32} (hj : j < 21) (ho : o < 21) (hcol : col < 3) (hk : k < (W.1 o).length) (hself : o = j → nI k = sp) (hl48 : (W.1 j).length ≤ 48)
    (hb : ∀ v ∈ W.1 j, inL (cmp3 v col) ∧ inV (lin (cmp3 (gt (W.1 o) k) col) (-(cmp3 v col)) v (gt (W.1 o) k)))
    (hQ : ∀ h, Rep (sl W j ((W.1 j).mapIdx (ccF col sp (gt (W.1 o) k)))) X h → Q (.inl none) h) :
    ∀ (n i : Nat) (h : PH), i + n = (W.1 j).length → Rep (sl W j (part (ccF col sp (gt (W.1 o) k)) (W.1 j) i)) X h →
    Runs (d + 2) call sc m_X1_clearColumn Q 3 [(0, .ref (rid j)), (1, .int (nI col)), (2, .ref (rid o)), (3, .int (nI k)), (4, .int sp), (5, .int (nI i))] [] h 0 0 := by
  generalize hu : gt (W.1 o) k = u at hb hQ ⊢
  intro n
  induction n with
  | zero =>
    intro i h hi hr
    refine go hc 4 (fun K hK => ?_)
    conv => whnf
    refine ⟨_, _, hr.R _ (by omega), rfl, ?_⟩
    conv => whnf
    rw [sl_self, part_len, show (W.1 j).length = i by omega]
    refine ⟨fun c => ?_, fun c => absurd (nI_le (Nat.le_refl _) (by omega)) c⟩
    conv => whnf
    refine hK _ _ _ _ _ _ (go hc 1 (fun K hK => ?_))
    conv => whnf
    rw [show i = (W.1 j).length by omega, part_all] at hr
    exact hQ h hr
  | succ n ih =>
    intro i h hi hr
    have hil : i < (W.1 j).length := by omega
    have hlen : ((sl W j (part (ccF col sp u) (W.1 j) i)).1 j).length = (W.1 j).length := by rw [sl_self, part_len]
    have hgj : gt ((sl W j (part (ccF col sp u) (W.1 j) i)).1 j) i = gt (W.1 j) i := by rw [sl_self, gt_part hil, if_neg (by omega)]
    have hlo : k < ((sl W j (part (ccF col sp u) (W.1 j) i)).1 o).length := by
      by_cases hoj : o = j
      · subst hoj; rw [sl_self, part_len]; exact hk
      · rw [sl_ne _ _ hoj]; exact hk
    have hgo : gt ((sl W j (part (ccF col sp u) (W.1 j) i)).1 o) k = u := by
      by_cases hoj : o = j
      · subst hoj
        rw [sl_self, gt_part hk]
        have e : ccF col sp u k (gt (W.1 o) k) = u := by
          unfold ccF
          rw [if_pos (Or.inl (hself rfl))]; exact hu
        split
        · exact e
        · exact hu
      · rw [sl_ne _ _ hoj]; exact hu
    obtain ⟨hb1, hb2⟩ := hb _ (gt_mem hil)
    refine go hc 4 (fun K hK => ?_)
    conv => whnf
    refine ⟨_, _, hr.R _ (by omega), rfl, ?_⟩
    conv => whnf
    rw [hlen]
    refine ⟨fun c => absurd c (nI_ge hil (by omega)), fun c => ?_⟩
    conv => whnf
    refine hK _ _ _ _ _ _ (go hc 3 (fun K hK => ?_))
    conv => whnf
    by_cases hsp : nI i = sp
    · refine ⟨fun c => ?_, fun c => absurd (hsp) c⟩
      conv => whnf
      refine hK _ _ _ _ _ _ (go hc 2 (fun K hK => ?_))
      conv => whnf
      try simp only [nI_1]
      refine hK _ _ _ _ _ _ (Runs.less hc [0, 1, 2, 3, 4, 5] rfl rfl rfl rfl (ih _ _ (by omega) (by rw [← part_skip (fun _ => by unfold ccF; rw [if_pos (Or.inl hsp)])]; exact hr)))
    · refine ⟨fun c => absurd c (hsp), fun c => ?_⟩
      conv => whnf
      refine hK _ _ _ _ _ _ (go hc 7 (fun K hK => ?_))
      conv => whnf
      refine ⟨_, hr.R _ (by omega), Nat.le_of_ble_eq_true rfl, ?_⟩
      conv => whnf
      refine callee hc (r_atK hr (by omega) (by omega) (by omega) ?_)
      conv => whnf
      rw [hgj]
      by_cases hz : cmp3 (gt (W.1 j) i) col = 0
      · refine ⟨fun c => ?_, fun c => absurd ((kEq0 hb1).mpr hz) c⟩
        conv => whnf
        refine hK _ _ _ _ _ _ (go hc 2 (fun K hK => ?_))
        conv => whnf
        try simp only [nI_1]
        refine hK _ _ _ _ _ _ (Runs.less hc [0, 1, 2, 3, 4, 5] rfl rfl rfl rfl (ih _ _ (by omega) (by rw [← part_skip (fun _ => by unfold ccF; rw [if_pos (Or.inr hz)])]; exact hr)))
      · refine ⟨fun c => absurd c (fun q => hz ((kEq0 hb1).mp q)), fun c => ?_⟩
        conv => whnf
        refine hK _ _ _ _ _ _ (go hc 16 (fun K hK => ?_))
        conv => whnf
        refine ⟨_, hr.R _ (by omega), Nat.le_of_ble_eq_true rfl, ?_⟩
        conv => whnf
        refine callee hc (r_atK hr (by omega) (by omega) (by omega) ?_)
        conv => whnf
        refine ⟨_, hr.R _ (by omega), Nat.le_of_ble_eq_true rfl, ?_⟩
        conv => whnf
        refine callee hc (r_atK hr (by omega) (by omega) (by omega) ?_)
        rw [hgo, hgj]
        conv => whnf
        rw [← Int64.ofInt_neg]
        conv => whnf
        refine ⟨_, hr.R _ (by omega), Nat.le_of_ble_eq_true rfl, ?_⟩
        conv => whnf
        refine callee hc (r_mix hr hj (by omega) ho hlo rfl rfl (by rw [hgo, hgj]; exact hb2) ?_)
        intro h hr
        rw [hgo, hgj, sl_sl, sl_self, part_set hil (by unfold ccF; rw [if_neg (fun q => q.elim hsp hz)])] at hr
        conv => whnf
        try simp only [nI_1]
        refine hK _ _ _ _ _ _ (Runs.less hc [0, 1, 2, 3, 4, 5] rfl rfl rfl rfl (ih _ _ (by omega) hr))
theorem r_clearColumn (hr : Rep W X h) {o k col : Nat} {sp : Int32} (hj : j < 21) (ho : o < 21) (hcol : col < 3) (hk : k < (W.1 o).length) (hself : o = j → nI k = sp)
    (hb : ∀ v ∈ W.1 j, inL (cmp3 v col) ∧ inV (lin (cmp3 (gt (W.1 o) k) col) (-(cmp3 v col)) v (gt (W.1 o) k)))
    (hQ : ∀ h, Rep (sl W j ((W.1 j).mapIdx (ccF col sp (gt (W.1 o) k)))) X h → Q (.inl none) h) : wpC sc (d + 3) 30 [.ref (rid j), .int (nI col), .ref (rid o), .int (nI k), .int sp] h Q := by
  refine enter rfl rfl (fun call hc => go hc 2 (fun K hK => ?_))
  conv => whnf
  try simp only [nI_1]
  refine hK _ _ _ _ _ _ (Runs.less hc [0, 1, 2, 3, 4, 5] rfl rfl rfl rfl (cc_loop (Q := qth _ Q) hc hj ho hcol hk hself (hr.c48 hj) hb hQ _ 0 h (Nat.zero_add _) (by rw [part_0, sl_id]; exact hr)))
end ROWS3
