/-! settling -/
theorem fw_ok {l : List V3} {col : Nat} : ∀ {n i f : Nat}, fw l col n i = some f → i ≤ f ∧ f < i + n ∧ cmp3 (gt l f) col ≠ 0
  | 0, _, _, h => by cases h
  | n + 1, i, f, h => by
    unfold fw at h
    split at h
    · have := fw_ok h; exact ⟨by omega, by omega, this.2.2⟩
    · rename_i hz
      cases h; exact ⟨Nat.le_refl _, by omega, hz⟩
theorem fw_no {l : List V3} {col : Nat} : ∀ {n i : Nat}, fw l col n i = none → ∀ q, i ≤ q → q < i + n → cmp3 (gt l q) col = 0
  | 0, _, _, q, h1, h2 => by omega
  | n + 1, i, h, q, h1, h2 => by
    unfold fw at h
    split at h
    · rename_i hz
      by_cases hq : q = i
      · rw [hq]; exact hz
      · exact fw_no h q (by omega) (by omega)
    · cases h
def turnAt (col s : Nat) (l : List V3) : List V3 := if cmp3 (gt l s) col < 0 then l.set s (neg3 (gt l s)) else l
theorem turnAt_len (col s : Nat) (l : List V3) : (turnAt col s l).length = l.length := by
  unfold turnAt
  split
  · rw [List.length_set]
  · rfl
def stB (col s : Nat) (L E : List V3) (f : Nat) : List V3 × List V3 × Nat :=
  ((turnAt col s (swp L s f)).mapIdx (ccF col (nI s) (gt (turnAt col s (swp L s f)) s)), E.mapIdx (ccF col (-1) (gt (turnAt col s (swp L s f)) s)), s + 1)
def stA (col : Nat) (t : List V3 × List V3 × Nat) : Option Nat → List V3 × List V3 × Nat
  | none => t
  | some f => stB col t.2.2 t.1 t.2.1 f
def st1 (col : Nat) (t : List V3 × List V3 × Nat) : List V3 × List V3 × Nat := stA col t (fw t.1 col (t.1.length - t.2.2) t.2.2)
def bdL (l : List V3) : Prop := ∀ v ∈ l, bdV BD v
theorem bdL.swp {l : List V3} {i k : Nat} (h : bdL l) (hi : i < l.length) (hk : k < l.length) : bdL (swp l i k) := fun v hv => h v (swp_mem hi hk hv)
theorem bdL.turn {l : List V3} {col s : Nat} (h : bdL l) (hs : s < l.length) : bdL (turnAt col s l) := by
  unfold turnAt
  split
  · intro v hv
    rcases List.mem_or_eq_of_mem_set hv with h1 | h1
    · exact h v h1
    · rw [h1]; exact (h _ (gt_mem hs)).neg
  · exact h
section SETTLE
variable {sc : Scr} {d : Nat} {W : AW} {X h : PH} {c : Nat} {Q : Out → PH → Prop}
theorem se_step {call : Callee} (hc : call = wpC sc (d + 4)) (hc0 : c < 10) {col s : Nat} {L E : List V3} (hr : Rep (sC W c L E) X h) (hcol : 0 < col ∧ col < 3) (hs : s ≤ L.length) (hbl : bdL L) (hbe : bdL E)
    (hQ : ∀ h, Rep (sC W c (st1 col (L, E, s)).1 (st1 col (L, E, s)).2.1) X h → Runs (d + 4) call sc m_X0_settle Q 4 [(0, .ref (cid c)), (1, .int (nI (st1 col (L, E, s)).2.2)), (2, .int (nI (col + 1)))] [] h 0 0) :
    Runs (d + 4) call sc m_X0_settle Q 4 [(0, .ref (cid c)), (1, .int (nI s)), (2, .int (nI col))] [] h 0 0 := by
  have h48 : L.length ≤ 48 := by have := hr.c48 (show 2 * c < 21 by omega); rw [sC_l] at this; exact this
  have hin : ∀ v, bdV BD v → inL (cmp3 v col) := fun v hv => (hv.cmp col).inL (by decide)
  refine go hc 3 (fun K hK => ?_)
  conv => whnf
  refine ⟨fun c_ => absurd c_ (nI_nlt (b := col) (a := 2) (by omega) (by omega)), fun c_ => ?_⟩
  conv => whnf
  refine hK _ _ _ _ _ _ (go hc 8 (fun K hK => ?_))
  conv => whnf
  refine ⟨_, _, hr.C _ (by omega), rfl, ?_⟩
  conv => whnf
  refine ⟨_, hr.R _ (by omega), Nat.le_of_ble_eq_true rfl, ?_⟩
  conv => whnf
  refine callee hc (r_firstWith hr (i := s) (by omega) (by omega) (by rw [sC_l]; exact hs) (by rw [sC_l]; exact fun v hv => hin v (hbl v hv)) ?_)
  rw [sC_l]
  conv => whnf
  unfold st1 at hQ
  cases hf : fw L col (L.length - s) s with
  | none =>
    simp only [hf] at hQ
    refine ⟨fun c_ => ?_, fun c_ => absurd (by decide) c_⟩
    conv => whnf
    refine hK _ _ _ _ _ _ ?_
    refine go hc 2 (fun K hK => ?_)
    conv => whnf
    try simp only [nI_1]
    refine hK _ _ _ _ _ _ (Runs.less hc [0, 1, 2] rfl rfl rfl rfl (hQ h hr))
  | some f =>
    simp only [hf] at hQ
    obtain ⟨hf1, hf2, hf3⟩ := fw_ok hf
    have hsl : s < L.length := by omega
    have hfl : f < L.length := by omega
    unfold stA stB at hQ
    dsimp only at hQ
    generalize hL1 : swp L s f = L1 at hQ
    have b1 : bdL L1 := by rw [← hL1]; exact hbl.swp hsl hfl
    have n1 : L1.length = L.length := by rw [← hL1, swp_len]
    have g1 := b1 _ (gt_mem (show s < L1.length by omega))
    have hgo : ∀ h, Rep (sC W c (turnAt col s L1) E) X h → Runs (d + 4) call sc m_X0_settle Q 54 [(0, .ref (cid c)), (1, .int (nI s)), (2, .int (nI col)), (3, .int (nI f))] [] h 0 0 := by
      intro h hr
      generalize hL2 : turnAt col s L1 = L2 at hQ hr
      have b2 : bdL L2 := by rw [← hL2]; exact b1.turn (by omega)
      have n2 : L2.length = L.length := by rw [← hL2, turnAt_len, n1]
      have g2 := b2 _ (gt_mem (show s < L2.length by omega))
      have hlin : ∀ v, bdV BD v → inL (cmp3 v col) ∧ inV (lin (cmp3 (gt L2 s) col) (-(cmp3 v col)) v (gt L2 s)) := fun v hv => ⟨hin v hv, (bd_lin (g2.cmp col) (hv.cmp col).neg hv g2).inV (by decide)⟩
      have hgm : gt (L2.mapIdx (ccF col (nI s) (gt L2 s))) s = gt L2 s := by
        rw [gt_mapIdx (by omega)]
        unfold ccF
        rw [if_pos (Or.inl rfl)]
      refine go hc 17 (fun K hK => ?_)
      conv => whnf
      refine ⟨_, _, hr.C _ (by omega), rfl, ?_⟩
      conv => whnf
      refine ⟨_, _, hr.C _ (by omega), rfl, ?_⟩
      conv => whnf
      refine ⟨_, hr.R _ (by omega), Nat.le_of_ble_eq_true rfl, ?_⟩
      conv => whnf
      refine callee hc (r_clearColumn hr (by omega) (by omega) (by omega) (by rw [sC_l]; omega) (fun _ => rfl) (by rw [sC_l]; exact fun v hv => hlin v (b2 v hv)) ?_)
      intro h hr
      rw [sC_l, sl_sC_l] at hr
      conv => whnf
      refine ⟨_, _, hr.C _ (by omega), rfl, ?_⟩
      conv => whnf
      refine ⟨_, _, hr.C _ (by omega), rfl, ?_⟩
      conv => whnf
      refine ⟨_, hr.R _ (by omega), Nat.le_of_ble_eq_true rfl, ?_⟩
      conv => whnf
      refine callee hc (r_clearColumn hr (by omega) (by omega) (by omega) (by rw [sC_l, List.length_mapIdx]; omega) (fun q => by omega) (by rw [sC_e, sC_l, hgm]; exact fun v hv => hlin v (hbe v hv)) ?_)
      intro h hr
      rw [sC_l, sC_e, hgm, sl_sC_e] at hr
      conv => whnf
      try simp only [nI_1]
      refine hK _ _ _ _ _ _ ?_
      refine go hc 2 (fun K hK => ?_)
      conv => whnf
      try simp only [nI_1]
      refine hK _ _ _ _ _ _ (Runs.less hc [0, 1, 2] rfl rfl rfl rfl (hQ h hr))
    unfold turnAt at hgo
    refine ⟨fun c_ => absurd c_ (nI_pos (by omega)), fun c_ => ?_⟩
    conv => whnf
    refine hK _ _ _ _ _ _ (go hc 13 (fun K hK => ?_))
    conv => whnf
    refine ⟨_, _, hr.C _ (by omega), rfl, ?_⟩
    conv => whnf
    refine ⟨_, hr.R _ (by omega), Nat.le_of_ble_eq_true rfl, ?_⟩
    conv => whnf
    refine callee hc (r_swap hr (by omega) (by rw [sC_l]; exact hsl) (by rw [sC_l]; exact hfl) ?_)
    intro h hr
    rw [sC_l, sl_sC_l] at hr
    change Rep (sC W c (swp L s f) E) X h at hr
    rw [hL1] at hr
    conv => whnf
    refine ⟨_, _, hr.C _ (by omega), rfl, ?_⟩
    conv => whnf
    refine ⟨_, hr.R _ (by omega), Nat.le_of_ble_eq_true rfl, ?_⟩
    conv => whnf
    refine callee hc (r_atK hr (by omega) (by rw [sC_l]; omega) (by omega) ?_)
    rw [sC_l]
    conv => whnf
    by_cases h1 : cmp3 (gt L1 s) col < 0
    · rw [if_pos h1] at hgo
      refine ⟨fun c_ => absurd c_ (fun q => by have := (kGe0 (hin _ g1)).mp q; omega), fun c_ => ?_⟩
      conv => whnf
      refine hK _ _ _ _ _ _ (go hc 4 (fun K hK => ?_))
      conv => whnf
      refine ⟨_, _, hr.C _ (by omega), rfl, ?_⟩
      conv => whnf
      refine ⟨_, hr.R _ (by omega), Nat.le_of_ble_eq_true rfl, ?_⟩
      conv => whnf
      refine callee hc (r_negate hr (by omega) (by rw [sC_l]; omega) ?_)
      intro h hr
      rw [sC_l, sl_sC_l] at hr
      conv => whnf
      try simp only [nI_1]
      refine hK _ _ _ _ _ _ (Runs.less hc [0, 1, 2, 3] rfl rfl rfl rfl (hgo h hr))
    · rw [if_neg h1] at hgo
      refine ⟨fun c_ => ?_, fun c_ => absurd ((kGe0 (hin _ g1)).mpr (by omega)) c_⟩
      conv => whnf
      try simp only [nI_1]
      refine hK _ _ _ _ _ _ (Runs.less hc [0, 1, 2, 3] rfl rfl rfl rfl (hgo h hr))
def dI (c : Nat) (E : List V3) : List V3 := if c % 2 = 1 then E else E.filter nid
theorem se_end {call : Callee} (hc : call = wpC sc (d + 4)) (hc0 : c < 10) {s : Nat} {L E : List V3} (hr : Rep (sC W c L E) X h) (hbe : bdL E) (hQ : ∀ h, Rep (sC W c L (sortE c (dI c E))) X h → Q (.inl none) h) :
    Runs (d + 4) call sc m_X0_settle Q 4 [(0, .ref (cid c)), (1, .int (nI s)), (2, .int (nI 3))] [] h 0 0 := by
  unfold dI at hQ
  refine go hc 3 (fun K hK => ?_)
  conv => whnf
  refine ⟨fun c_ => ?_, fun c_ => absurd (by decide) c_⟩
  conv => whnf
  refine hK _ _ _ _ _ _ (go hc 3 (fun K hK => ?_))
  conv => whnf
  refine ⟨_, _, hr.C _ (by omega), rfl, ?_⟩
  conv => whnf
  by_cases h1 : c % 2 = 1
  · rw [if_pos h1] at hQ
    rw [h1]
    refine ⟨fun c_ => absurd c_ (by decide), fun c_ => ?_⟩
    conv => whnf
    refine hK _ _ _ _ _ _ ?_
    refine go hc 3 (fun K hK => ?_)
    conv => whnf
    refine ⟨_, hr.C _ (by omega), Nat.le_of_ble_eq_true rfl, ?_⟩
    conv => whnf
    refine callee hc (r_sortEdges hr hc0 (by rw [sC_e]; exact hbe) ?_)
    intro h hr
    rw [sC_e, sl_sC_e] at hr
    conv => whnf
    exact hQ h hr
  · rw [if_neg h1] at hQ
    rw [show c % 2 = 0 by omega]
    refine ⟨fun c_ => ?_, fun c_ => absurd (rfl) c_⟩
    conv => whnf
    refine hK _ _ _ _ _ _ (go hc 2 (fun K hK => ?_))
    conv => whnf
    refine ⟨_, hr.C _ (by omega), Nat.le_of_ble_eq_true rfl, ?_⟩
    conv => whnf
    refine callee hc (r_dropIdle hr hc0 (by rw [sC_e]; exact fun v hv => (hbe v hv).inV (by decide)) ?_)
    intro h hr
    rw [sC_e, sl_sC_e] at hr
    conv => whnf
    refine hK _ _ _ _ _ _ ?_
    refine go hc 3 (fun K hK => ?_)
    conv => whnf
    refine ⟨_, hr.C _ (by omega), Nat.le_of_ble_eq_true rfl, ?_⟩
    conv => whnf
    refine callee hc (r_sortEdges hr hc0 (by rw [sC_e]; exact fun v hv => hbe v ((List.mem_filter.mp hv).1)) ?_)
    intro h hr
    rw [sC_e, sl_sC_e] at hr
    conv => whnf
    exact hQ h hr
theorem st1_le {col : Nat} {t : List V3 × List V3 × Nat} (h : t.2.2 ≤ t.1.length) : (st1 col t).2.2 ≤ (st1 col t).1.length := by
  unfold st1
  cases hf : fw t.1 col (t.1.length - t.2.2) t.2.2 with
  | none => exact h
  | some f =>
    have := fw_ok hf
    show t.2.2 + 1 ≤ (List.mapIdx _ (turnAt col t.2.2 (swp t.1 t.2.2 f))).length
    rw [List.length_mapIdx, turnAt_len, swp_len]
    omega
def stt (L E : List V3) : List V3 × List V3 × Nat := st1 2 (st1 1 (L, E, 0))
theorem r_settle (hr : Rep W X h) (hc0 : c < 10) (hbl : bdL (W.1 (2 * c))) (hbe : bdL (W.1 (2 * c + 1)))
    (hbl1 : bdL (st1 1 (W.1 (2 * c), W.1 (2 * c + 1), 0)).1) (hbe1 : bdL (st1 1 (W.1 (2 * c), W.1 (2 * c + 1), 0)).2.1) (hbe2 : bdL (stt (W.1 (2 * c)) (W.1 (2 * c + 1))).2.1)
    (hQ : ∀ h, Rep (sC W c (stt (W.1 (2 * c)) (W.1 (2 * c + 1))).1 (sortE c (dI c (stt (W.1 (2 * c)) (W.1 (2 * c + 1))).2.1))) X h → Q (.inl none) h) : wpC sc (d + 5) 9 [.ref (cid c)] h Q := by
  unfold stt at hbe2 hQ
  have hr0 : Rep (sC W c (W.1 (2 * c)) (W.1 (2 * c + 1))) X h := by rw [sC_id]; exact hr
  have hle := st1_le (col := 1) (t := (W.1 (2 * c), W.1 (2 * c + 1), 0)) (Nat.zero_le _)
  refine enter rfl rfl (fun call hc => go hc 4 (fun K hK => ?_))
  conv => whnf
  try simp only [nI_1]
  refine hK _ _ _ _ _ _ (Runs.less hc [0, 1, 2] rfl rfl rfl rfl (se_step (Q := qth _ Q) (col := 1) (s := 0) hc hc0 hr0 (by omega) (Nat.zero_le _) hbl hbe ?_))
  intro h hr
  generalize hT : st1 1 (W.1 (2 * c), W.1 (2 * c + 1), 0) = T at *
  refine se_step (Q := qth _ Q) (col := 2) hc hc0 hr (by omega) hle hbl1 hbe1 ?_
  intro h hr
  exact se_end (Q := qth _ Q) hc hc0 hr hbe2 hQ
end SETTLE
