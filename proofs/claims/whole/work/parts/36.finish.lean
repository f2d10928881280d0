/-! finishing the draft -/
def ok3B (v : V3) : Bool := decide ((-30 ≤ v.1 ∧ v.1 ≤ 30) ∧ (-30 ≤ v.2.1 ∧ v.2.1 ≤ 30) ∧ (-30 ≤ v.2.2 ∧ v.2.2 ≤ 30))
theorem ok3B_iff (v : V3) : ok3B v = true ↔ ok3 v := by
  unfold ok3B
  rw [decide_eq_true_iff]
  constructor
  · intro h q hq
    match q, hq with
    | 0, _ => exact h.1
    | 1, _ => exact h.2.1
    | 2, _ => exact h.2.2
  · intro h
    exact ⟨h 0 (by decide), h 1 (by decide), h 2 (by decide)⟩
def smB (s : LE) : Bool := s.1.all ok3B && s.2.all ok3B
theorem smB_iff (s : LE) : smB s = true ↔ (∀ v ∈ s.1, ok3 v) ∧ ∀ v ∈ s.2, ok3 v := by
  unfold smB
  rw [Bool.and_eq_true, List.all_eq_true, List.all_eq_true]
  constructor
  · intro h
    exact ⟨fun v hv => (ok3B_iff v).mp (h.1 v hv), fun v hv => (ok3B_iff v).mp (h.2 v hv)⟩
  · intro h
    exact ⟨fun v hv => (ok3B_iff v).mpr (h.1 v hv), fun v hv => (ok3B_iff v).mpr (h.2 v hv)⟩
theorem bf_odd (t : Nat) (v u : V3) : bf (2 * t + 1) v u = bf 1 v u := by
  unfold bf rayV wtV
  rw [show (2 * t + 1) % 2 = 1 % 2 by omega]
theorem bf_even (t : Nat) (v u : V3) : bf (2 * t) v u = bf 0 v u := by
  unfold bf rayV wtV
  rw [show (2 * t) % 2 = 0 % 2 by omega]
theorem sink_bf {c c' : Nat} (h : ∀ v u, bf c v u = bf c' v u) : ∀ (k : Nat) (l : List V3), sink c k l = sink c' k l
  | 0, _ => rfl
  | k + 1, l => by
    unfold sink
    rw [h, sink_bf h k]
theorem srtN_bf {c c' : Nat} (h : ∀ v u, bf c v u = bf c' v u) : ∀ (n i : Nat) (l : List V3), srtN c n i l = srtN c' n i l
  | 0, _, _ => rfl
  | n + 1, i, l => by
    unfold srtN
    rw [sink_bf h, srtN_bf h n]
theorem sortE_odd (t : Nat) (l : List V3) : sortE (2 * t + 1) l = sortE 1 l := srtN_bf (bf_odd t) _ _ _
theorem sortE_even (t : Nat) (l : List V3) : sortE (2 * t) l = sortE 0 l := srtN_bf (bf_even t) _ _ _
/-- the settled generators, the settled constraints -/
def stG (s : LE) : LE := ((stt s.1 s.2).1, sortE 1 (stt s.1 s.2).2.1)
def stK (s : LE) : LE := ((stt s.1 s.2).1, sortE 0 ((stt s.1 s.2).2.1.filter nid))
/-- settling stays in range -/
def okS (s : LE) : Prop := bdL s.1 ∧ bdL s.2 ∧ bdL (st1 1 (s.1, s.2, 0)).1 ∧ bdL (st1 1 (s.1, s.2, 0)).2.1 ∧ bdL (stt s.1 s.2).1 ∧ bdL (stt s.1 s.2).2.1
theorem srtN_mem (c : Nat) : ∀ (n i : Nat) (l : List V3), i + n ≤ l.length ∨ n = 0 → ∀ v, v ∈ srtN c n i l → v ∈ l
  | 0, _, _, _, _, hv => hv
  | n + 1, i, l, h, v, hv => sink_mem c i l (by omega) v (srtN_mem c n (i + 1) _ (by rw [sink_len]; omega) v hv)
theorem sortE_mem {c : Nat} {l : List V3} {v : V3} (hv : v ∈ sortE c l) : v ∈ l := srtN_mem c _ _ l (by omega) v hv
def emp : SH := (([], []), ([], []))
def big (s : SH) : Bool := decide (12 < s.1.2.length) || decide (12 < s.2.2.length)
def finG2 (k g : LE) : Nat ⊕ SH := if smB k = true then (if big (k, g) = true then .inl 2 else .inr (k, g)) else .inl 3
def finG1 (g : LE) : Nat ⊕ SH := if rcV 1 g.2 < g.2.length then (if smB g = true then finG2 (stK (cutA (e3, []) (rowsC g.1 g.2))) g else .inl 3) else .inr emp
def finG (s : LE) : Nat ⊕ SH := finG1 (stG s)
abbrev pl0 : LE := cutF (1, 0, 0) (e3, [])
def finK2 (k g : LE) : Nat ⊕ SH := if rcV 1 g.2 < g.2.length then (if smB g = true then (if big (k, g) = true then .inl 2 else .inr (k, g)) else .inl 3) else .inr emp
def finK1 (k : LE) : Nat ⊕ SH := if smB k = true then finK2 k (stG (cutA pl0 (rowsC k.1 k.2))) else .inl 3
def finK (s : LE) : Nat ⊕ SH := finK1 (stK s)
theorem sS_kl (W : AW) (u : Nat) (S : SH) : (sS W u S).1 (2 * (2 * u)) = S.1.1 := by
  unfold sS
  rw [sC_ne _ _ _ (by omega) (by omega), sC_l]
theorem sS_ke (W : AW) (u : Nat) (S : SH) : (sS W u S).1 (2 * (2 * u) + 1) = S.1.2 := by
  unfold sS
  rw [sC_ne _ _ _ (by omega) (by omega), sC_e]
theorem sS_gl (W : AW) (u : Nat) (S : SH) : (sS W u S).1 (2 * (2 * u + 1)) = S.2.1 := sC_l _ _ _ _
theorem sS_ge (W : AW) (u : Nat) (S : SH) : (sS W u S).1 (2 * (2 * u + 1) + 1) = S.2.2 := sC_e _ _ _ _
theorem sS_ne (W : AW) {u j : Nat} (S : SH) (h : j / 4 ≠ u) : (sS W u S).1 j = W.1 j := by
  unfold sS
  rw [sC_ne _ _ _ (by omega) (by omega), sC_ne _ _ _ (by omega) (by omega)]
theorem sC_comm (W : AW) {a b : Nat} (h : a ≠ b) (L E L' E' : List V3) : sC (sC W a L E) b L' E' = sC (sC W b L' E') a L E := by
  unfold sC
  rw [sl_comm _ (show 2 * a + 1 ≠ 2 * b by omega), sl_comm _ (show 2 * a + 1 ≠ 2 * b + 1 by omega), sl_comm W (show 2 * a ≠ 2 * b by omega), sl_comm _ (show 2 * a ≠ 2 * b + 1 by omega)]
theorem sC_sS_g (W : AW) (u : Nat) (S : SH) (L E : List V3) : sC (sS W u S) (2 * u + 1) L E = sS W u (S.1, (L, E)) := sC_sC _ _ _ _ _ _
theorem sC_sS_k (W : AW) (u : Nat) (S : SH) (L E : List V3) : sC (sS W u S) (2 * u) L E = sS W u ((L, E), S.2) := by
  unfold sS
  rw [sC_comm _ (by omega), sC_sC]
theorem sS_id (W : AW) (u : Nat) : sS W u (gS W u) = W := by
  unfold sS gS
  have e1 : sC W (2 * u) (W.1 (2 * (2 * u))) (W.1 (2 * (2 * u) + 1)) = W := sC_id W (2 * u)
  dsimp only
  rw [e1]
  exact sC_id W (2 * u + 1)
theorem sS_sS (W : AW) (u : Nat) (S S' : SH) : sS (sS W u S) u S' = sS W u S' := by
  show sC (sC (sS W u S) (2 * u) S'.1.1 S'.1.2) (2 * u + 1) S'.2.1 S'.2.2 = _
  rw [sC_sS_k, sC_sS_g]
theorem gS_sS (W : AW) (u : Nat) (S : SH) : gS (sS W u S) u = S := by
  unfold gS
  rw [sS_kl, sS_ke, sS_gl, sS_ge]
theorem gS_ne (W : AW) {u t : Nat} (S : SH) (h : t ≠ u) : gS (sS W u S) t = gS W t := by
  unfold gS
  rw [sS_ne _ _ (by omega), sS_ne _ _ (by omega), sS_ne _ _ (by omega), sS_ne _ _ (by omega)]
section FINISH
variable {sc : Scr} {d : Nat} {W : AW} {X h : PH} {u c : Nat} {S0 : SH} {Q : Out → PH → Prop}
theorem s_within (hr : RepS W X h) {j : Nat} (hj : j < 20) (hb : bdL (W.1 j)) (hQ : Q (.inl (some (.int (bI01 ((W.1 j).all ok3B))))) h) : wpC sc (d + 2) 32 [.ref (rid j), .long 30] h Q := by
  have e : (W.1 j).all ok3B = true ↔ ∀ v ∈ W.1 j, ok3 v := by
    rw [List.all_eq_true]
    exact ⟨fun h v hv => (ok3B_iff v).mp (h v hv), fun h v hv => (ok3B_iff v).mpr (h v hv)⟩
  refine s_isWithin hr hj (fun v hv => (hb v hv).inV (by decide)) (fun q => ?_) (fun q => ?_)
  · rw [(Bool.not_eq_true _).mp (fun p => q (e.mp p))] at hQ
    exact hQ
  · rw [e.mpr q] at hQ
    exact hQ
theorem s_small (hr : RepS W X h) (hc0 : c < 10) {s : LE} (hs : W.1 (2 * c) = s.1 ∧ W.1 (2 * c + 1) = s.2) (hbl : bdL s.1) (hbe : bdL s.2) (h1 : smB s = true → Q (.inl none) h) (h0 : smB s = false → Q (.inr 3) h) : wpC sc (d + 6) 70 [.ref 0, .ref (cid c)] h Q := by
  rw [← hs.1] at hbl
  rw [← hs.2] at hbe
  have e : smB s = ((W.1 (2 * c)).all ok3B && (W.1 (2 * c + 1)).all ok3B) := by unfold smB; rw [hs.1, hs.2]
  refine enter rfl rfl (fun call hc => go hc 5 (fun K hK => ?_))
  conv => whnf
  refine ⟨_, _, hr.C _ (by omega), rfl, ?_⟩
  conv => whnf
  refine ⟨_, hr.R _ (by omega), Nat.le_of_ble_eq_true rfl, ?_⟩
  conv => whnf
  refine callee hc (s_within hr (by omega) hbl ?_)
  conv => whnf
  have hbad : smB s = false → Runs (d + 5) call sc m_X3_requireSmall (qth (mTh m_X3_requireSmall) Q) 26 [(0, .ref 0), (1, .ref (cid c))] [] h 1 6 := fun q => by
    refine go hc 1 (fun K hK => ?_)
    conv => whnf
    exact ⟨by omega, Nat.le_of_ble_eq_true rfl, rfl, rfl, h0 q⟩
  by_cases c1 : (W.1 (2 * c)).all ok3B = true
  · rw [c1]
    refine ⟨fun c_ => absurd c_ (by decide), fun c_ => ?_⟩
    conv => whnf
    refine hK _ _ _ _ _ _ (go hc 5 (fun K hK => ?_))
    conv => whnf
    refine ⟨_, _, hr.C _ (by omega), rfl, ?_⟩
    conv => whnf
    refine ⟨_, hr.R _ (by omega), Nat.le_of_ble_eq_true rfl, ?_⟩
    conv => whnf
    refine callee hc (s_within hr (by omega) hbe ?_)
    conv => whnf
    by_cases c2 : (W.1 (2 * c + 1)).all ok3B = true
    · rw [c2]
      refine ⟨fun c_ => absurd c_ (by decide), fun c_ => ?_⟩
      conv => whnf
      refine hK _ _ _ _ _ _ (go hc 1 (fun K hK => ?_))
      conv => whnf
      exact h1 (by rw [e, c1, c2]; rfl)
    · have c2 := (Bool.not_eq_true _).mp c2
      rw [c2]
      refine ⟨fun c_ => ?_, fun c_ => absurd (rfl) c_⟩
      conv => whnf
      exact hK _ _ _ _ _ _ (hbad (by rw [e, c1, c2]; rfl))
  · have c1 := (Bool.not_eq_true _).mp c1
    rw [c1]
    refine ⟨fun c_ => ?_, fun c_ => absurd (rfl) c_⟩
    conv => whnf
    exact hK _ _ _ _ _ _ (hbad (by rw [e, c1]; rfl))
theorem s_smallOk (hr : RepS W X h) (hc0 : c < 10) {s : LE} (hs : W.1 (2 * c) = s.1 ∧ W.1 (2 * c + 1) = s.2) (hbl : bdL s.1) (hbe : bdL s.2) (hm : smB s = true) (hQ : Q (.inl none) h) : wpC sc (d + 6) 70 [.ref 0, .ref (cid c)] h Q := s_small hr hc0 hs hbl hbe (fun _ => hQ) (fun q => by rw [hm] at q; exact absurd q (by decide))
theorem s_smallNo (hr : RepS W X h) (hc0 : c < 10) {s : LE} (hs : W.1 (2 * c) = s.1 ∧ W.1 (2 * c + 1) = s.2) (hbl : bdL s.1) (hbe : bdL s.2) (hm : smB s = false) (hQ : Q (.inr 3) h) : wpC sc (d + 6) 70 [.ref 0, .ref (cid c)] h Q := s_small hr hc0 hs hbl hbe (fun q => by rw [hm] at q; exact absurd q (by decide)) (fun _ => hQ)
theorem s_plain (hr : RepS W X h) {S : SH} (hu : W.2.2.2.2.1 < 5) (hS : gS W W.2.2.2.2.1 = S) (h1 : big S = false → Q (.inl none) h) (h0 : big S = true → Q (.inr 2) h) : wpC sc (d + 6) 71 [.ref 0] h Q := by
  subst hS
  unfold big gS at h1 h0
  dsimp only at h1 h0
  have k1 := hr.c48 (show 2 * (2 * W.2.2.2.2.1) + 1 < 20 by omega)
  have k2 := hr.c48 (show 2 * (2 * W.2.2.2.2.1 + 1) + 1 < 20 by omega)
  refine enter rfl rfl (fun call hc => go hc 7 (fun K hK => ?_))
  conv => whnf
  refine ⟨_, _, hr.D, rfl, ?_⟩
  conv => whnf
  refine ⟨_, _, hr.S _ (by omega), rfl, ?_⟩
  conv => whnf
  refine ⟨_, _, hr.C _ (by omega), rfl, ?_⟩
  conv => whnf
  refine ⟨_, hr.R _ (by omega), Nat.le_of_ble_eq_true rfl, ?_⟩
  conv => whnf
  refine callee hc (s_count hr (by omega) ?_)
  conv => whnf
  have hbad : (12 < (W.1 (2 * (2 * W.2.2.2.2.1) + 1)).length ∨ 12 < (W.1 (2 * (2 * W.2.2.2.2.1 + 1) + 1)).length) → Runs (d + 5) call sc m_X3_requirePlain (qth (mTh m_X3_requirePlain) Q) 36 [(0, .ref 0)] [] h 1 6 := fun q => by
    refine go hc 1 (fun K hK => ?_)
    conv => whnf
    refine ⟨by omega, Nat.le_of_ble_eq_true rfl, rfl, rfl, h0 ?_⟩
    rw [Bool.or_eq_true]
    exact q.imp decide_eq_true decide_eq_true
  by_cases c1 : 12 < (W.1 (2 * (2 * W.2.2.2.2.1) + 1)).length
  · refine ⟨fun c_ => ?_, fun c_ => absurd (nI_lt (a := 12) c1 (by omega)) c_⟩
    conv => whnf
    exact hK _ _ _ _ _ _ (hbad (Or.inl c1))
  · refine ⟨fun c_ => absurd c_ (nI_nlt (a := 12) (by omega) (by omega)), fun c_ => ?_⟩
    conv => whnf
    refine hK _ _ _ _ _ _ (go hc 7 (fun K hK => ?_))
    conv => whnf
    refine ⟨_, _, hr.D, rfl, ?_⟩
    conv => whnf
    refine ⟨_, _, hr.S _ (by omega), rfl, ?_⟩
    conv => whnf
    refine ⟨_, _, hr.C _ (by omega), rfl, ?_⟩
    conv => whnf
    refine ⟨_, hr.R _ (by omega), Nat.le_of_ble_eq_true rfl, ?_⟩
    conv => whnf
    refine callee hc (s_count hr (by omega) ?_)
    conv => whnf
    by_cases c2 : 12 < (W.1 (2 * (2 * W.2.2.2.2.1 + 1) + 1)).length
    · refine ⟨fun c_ => absurd c_ (nI_ge (a := 12) c2 (by omega)), fun c_ => ?_⟩
      conv => whnf
      exact hK _ _ _ _ _ _ (hbad (Or.inr c2))
    · refine ⟨fun c_ => ?_, fun c_ => absurd (nI_le (b := 12) (by omega) (by omega)) c_⟩
      conv => whnf
      refine hK _ _ _ _ _ _ (go hc 1 (fun K hK => ?_))
      conv => whnf
      exact h1 (by rw [decide_eq_false c1, decide_eq_false c2]; rfl)
theorem s_plainOk (hr : RepS (sS W u S0) X h) (hu : W.2.2.2.2.1 = u) (hu5 : u < 5) (hm : big S0 = false) (hQ : Q (.inl none) h) : wpC sc (d + 6) 71 [.ref 0] h Q := by
  subst hu
  exact s_plain hr hu5 (gS_sS _ _ _) (fun _ => hQ) (fun q => by rw [hm] at q; exact absurd q (by decide))
theorem s_plainNo (hr : RepS (sS W u S0) X h) (hu : W.2.2.2.2.1 = u) (hu5 : u < 5) (hm : big S0 = true) (hQ : Q (.inr 2) h) : wpC sc (d + 6) 71 [.ref 0] h Q := by
  subst hu
  exact s_plain hr hu5 (gS_sS _ _ _) (fun q => by rw [hm] at q; exact absurd q (by decide)) (fun _ => hQ)
/-- settling the draft's generators -/
theorem s_stG (hr : RepS (sS W u S0) X h) (hu : u < 5) (hok : okS S0.2) (hQ : ∀ h, RepS (sS W u (S0.1, stG S0.2)) X h → Q (.inl none) h) : wpC sc (d + 5) 9 [.ref (cid (2 * u + 1))] h Q := by
  have e1 : (sS W u S0).1 (2 * (2 * u + 1)) = S0.2.1 := sS_gl _ _ _
  have e2 : (sS W u S0).1 (2 * (2 * u + 1) + 1) = S0.2.2 := sS_ge _ _ _
  refine s_settle hr (by omega) (by rw [e1]; exact hok.1) (by rw [e2]; exact hok.2.1) (by rw [e1, e2]; exact hok.2.2.1) (by rw [e1, e2]; exact hok.2.2.2.1) (by rw [e1, e2]; exact hok.2.2.2.2.2) ?_
  intro h hr
  rw [e1, e2, sC_sS_g, sortE_odd, show dI (2 * u + 1) (stt S0.2.1 S0.2.2).2.1 = (stt S0.2.1 S0.2.2).2.1 from if_pos (by omega)] at hr
  exact hQ h hr
theorem s_stK (hr : RepS (sS W u S0) X h) (hu : u < 5) (hok : okS S0.1) (hQ : ∀ h, RepS (sS W u (stK S0.1, S0.2)) X h → Q (.inl none) h) : wpC sc (d + 5) 9 [.ref (cid (2 * u))] h Q := by
  have e1 : (sS W u S0).1 (2 * (2 * u)) = S0.1.1 := sS_kl _ _ _
  have e2 : (sS W u S0).1 (2 * (2 * u) + 1) = S0.1.2 := sS_ke _ _ _
  refine s_settle hr (by omega) (by rw [e1]; exact hok.1) (by rw [e2]; exact hok.2.1) (by rw [e1, e2]; exact hok.2.2.1) (by rw [e1, e2]; exact hok.2.2.2.1) (by rw [e1, e2]; exact hok.2.2.2.2.2) ?_
  intro h hr
  rw [e1, e2, sC_sS_k, sortE_even, show dI (2 * u) (stt S0.1.1 S0.1.2).2.1 = (stt S0.1.1 S0.1.2).2.1.filter nid from if_neg (by omega)] at hr
  exact hQ h hr
theorem okS.G {s : LE} (h : okS s) : bdL (stG s).1 ∧ bdL (stG s).2 := ⟨h.2.2.2.2.1, fun v hv => h.2.2.2.2.2 v (sortE_mem hv)⟩
theorem okS.K {s : LE} (h : okS s) : bdL (stK s).1 ∧ bdL (stK s).2 := ⟨h.2.2.2.2.1, fun v hv => h.2.2.2.2.2 v (List.mem_filter.mp (sortE_mem hv)).1⟩
theorem RepS.Du (hr : RepS (sS W u S0) X h) (hu : W.2.2.2.2.1 = u) : h[0]? = some (.inr (3, [.ref 3, .int (nI W.2.1), .ref 4, .ref (sid u), .int W.2.2.2.2.2.1, .int W.2.2.2.2.2.2.1, .int W.2.2.2.2.2.2.2])) := by
  rw [← hu]; rw [← hu] at hr
  exact hr.D
theorem s_finG (hr : RepS (sS W u S0) X h) (hu : W.2.2.2.2.1 = u) (hu5 : u < 5) (hok : okS S0.2)
    (hK2 : rcV 1 (stG S0.2).2 < (stG S0.2).2.length → smB (stG S0.2) = true → okR (e3, []) (rowsC (stG S0.2).1 (stG S0.2).2) ∧ okS (cutA (e3, []) (rowsC (stG S0.2).1 (stG S0.2).2)))
    (h1 : ∀ S h, finG S0.2 = .inr S → RepS (sS W u S) X h → Q (.inl none) h) (h0 : ∀ e S h, finG S0.2 = .inl e → RepS (sS W u S) X h → Q (.inr e) h) : wpC sc (d + 7) 68 [.ref 0] h Q := by
  unfold finG at h1 h0
  generalize hg : stG S0.2 = g at *
  have hbg := hok.G
  rw [hg] at hbg
  have hinV : ∀ v ∈ g.2, inV v := fun v hv => (hbg.2 v hv).inV (by decide)
  have e1 : ∀ S : SH, (sS W u S).1 (2 * (2 * u + 1) + 1) = S.2.2 := sS_ge _ _
  refine enter rfl rfl (fun call hc => go hc 8 (fun K hK => ?_))
  conv => whnf
  refine ⟨_, _, hr.Du hu, rfl, ?_⟩
  conv => whnf
  refine ⟨_, _, hr.S _ (by omega), rfl, ?_⟩
  conv => whnf
  refine ⟨_, hr.C _ (by omega), Nat.le_of_ble_eq_true rfl, ?_⟩
  conv => whnf
  refine callee hc (s_stG hr hu5 hok ?_)
  intro h hr
  rw [hg] at hr
  conv => whnf
  refine ⟨_, _, hr.Du hu, rfl, ?_⟩
  conv => whnf
  refine ⟨_, hr.S _ (by omega), Nat.le_of_ble_eq_true rfl, ?_⟩
  conv => whnf
  refine callee hc (s_hasPoint hr hu5 (by rw [e1]; exact hinV) ?_)
  rw [e1, rc_odd]
  conv => whnf
  by_cases c1 : rcV 1 g.2 < g.2.length
  · rw [decide_eq_true c1]
    unfold finG1 at h1 h0
    rw [if_pos c1] at h1 h0
    by_cases c2 : smB g = true
    · obtain ⟨hR, hS⟩ := hK2 c1 c2
      rw [if_pos c2] at h1 h0
      unfold finG2 at h1 h0
      have hbk := hS.K
      have e2 : ∀ S : SH, (sS W u S).1 (2 * (2 * u + 1)) = S.2.1 := sS_gl _ _
      have hca : ∀ h, RepS (sS W u ((e3, []), g)) X h → ∀ R : Out → PH → Prop, (∀ h, RepS (sS W u (cutA (e3, []) (rowsC g.1 g.2), g)) X h → R (.inl none) h) → wpC sc (d + 6) 5 [.ref (cid (2 * u)), .ref (cid (2 * u + 1))] h R := fun h hr R hR' => by
        refine s_cutByAll (d := d + 1) hr (by omega) (by omega) (by omega) (s := (e3, [])) ⟨sS_kl _ _ _, sS_ke _ _ _⟩ (by rw [e1, e2]; exact hR) ?_
        rw [e1, e2]
        intro h hr
        rw [sC_sS_k] at hr
        exact hR' h hr
      generalize hk : stK (cutA (e3, []) (rowsC g.1 g.2)) = k at *
      by_cases c3 : smB k = true
      · rw [if_pos c3] at h1 h0
        by_cases c4 : big (k, g) = true
        · rw [if_pos c4] at h0
          refine ⟨fun c_ => absurd c_ (by decide), fun c_ => ?_⟩
          conv => whnf
          refine hK _ _ _ _ _ _ (go hc 28 (fun K hK => ?_))
          conv => whnf
          refine ⟨_, _, hr.Du hu, rfl, ?_⟩
          conv => whnf
          refine ⟨_, _, hr.S _ (by omega), rfl, ?_⟩
          conv => whnf
          refine ⟨_, hr.Du hu, Nat.le_of_ble_eq_true rfl, ?_⟩
          conv => whnf
          refine callee hc (s_smallOk hr (by omega) (s := g) ⟨sS_gl _ _ _, sS_ge _ _ _⟩ hbg.1 hbg.2 c2 ?_)
          conv => whnf
          refine ⟨_, _, hr.Du hu, rfl, ?_⟩
          conv => whnf
          refine ⟨_, _, hr.S _ (by omega), rfl, ?_⟩
          conv => whnf
          refine ⟨_, hr.C _ (by omega), Nat.le_of_ble_eq_true rfl, ?_⟩
          conv => whnf
          refine callee hc (s_startAll hr (by omega) ?_)
          intro h hr
          rw [sC_sS_k] at hr
          conv => whnf
          refine ⟨_, _, hr.Du hu, rfl, ?_⟩
          conv => whnf
          refine ⟨_, _, hr.S _ (by omega), rfl, ?_⟩
          conv => whnf
          refine ⟨_, _, hr.Du hu, rfl, ?_⟩
          conv => whnf
          refine ⟨_, _, hr.S _ (by omega), rfl, ?_⟩
          conv => whnf
          refine ⟨_, hr.C _ (by omega), Nat.le_of_ble_eq_true rfl, ?_⟩
          conv => whnf
          refine callee hc (hca h hr _ ?_)
          intro h hr
          conv => whnf
          refine ⟨_, _, hr.Du hu, rfl, ?_⟩
          conv => whnf
          refine ⟨_, _, hr.S _ (by omega), rfl, ?_⟩
          conv => whnf
          refine ⟨_, hr.C _ (by omega), Nat.le_of_ble_eq_true rfl, ?_⟩
          conv => whnf
          refine callee hc (s_stK hr hu5 hS ?_)
          intro h hr
          rw [hk] at hr
          conv => whnf
          refine ⟨_, _, hr.Du hu, rfl, ?_⟩
          conv => whnf
          refine ⟨_, _, hr.S _ (by omega), rfl, ?_⟩
          conv => whnf
          refine ⟨_, hr.Du hu, Nat.le_of_ble_eq_true rfl, ?_⟩
          conv => whnf
          refine callee hc (s_smallOk hr (by omega) (s := k) ⟨sS_kl _ _ _, sS_ke _ _ _⟩ hbk.1 hbk.2 c3 ?_)
          conv => whnf
          refine ⟨_, hr.Du hu, Nat.le_of_ble_eq_true rfl, ?_⟩
          conv => whnf
          refine callee hc (s_plainNo hr hu hu5 c4 ?_)
          conv => whnf
          exact ⟨rfl, rfl, h0 2 _ h rfl hr⟩
        · rw [if_neg c4] at h1
          have c4 := (Bool.not_eq_true _).mp c4
          refine ⟨fun c_ => absurd c_ (by decide), fun c_ => ?_⟩
          conv => whnf
          refine hK _ _ _ _ _ _ (go hc 28 (fun K hK => ?_))
          conv => whnf
          refine ⟨_, _, hr.Du hu, rfl, ?_⟩
          conv => whnf
          refine ⟨_, _, hr.S _ (by omega), rfl, ?_⟩
          conv => whnf
          refine ⟨_, hr.Du hu, Nat.le_of_ble_eq_true rfl, ?_⟩
          conv => whnf
          refine callee hc (s_smallOk hr (by omega) (s := g) ⟨sS_gl _ _ _, sS_ge _ _ _⟩ hbg.1 hbg.2 c2 ?_)
          conv => whnf
          refine ⟨_, _, hr.Du hu, rfl, ?_⟩
          conv => whnf
          refine ⟨_, _, hr.S _ (by omega), rfl, ?_⟩
          conv => whnf
          refine ⟨_, hr.C _ (by omega), Nat.le_of_ble_eq_true rfl, ?_⟩
          conv => whnf
          refine callee hc (s_startAll hr (by omega) ?_)
          intro h hr
          rw [sC_sS_k] at hr
          conv => whnf
          refine ⟨_, _, hr.Du hu, rfl, ?_⟩
          conv => whnf
          refine ⟨_, _, hr.S _ (by omega), rfl, ?_⟩
          conv => whnf
          refine ⟨_, _, hr.Du hu, rfl, ?_⟩
          conv => whnf
          refine ⟨_, _, hr.S _ (by omega), rfl, ?_⟩
          conv => whnf
          refine ⟨_, hr.C _ (by omega), Nat.le_of_ble_eq_true rfl, ?_⟩
          conv => whnf
          refine callee hc (hca h hr _ ?_)
          intro h hr
          conv => whnf
          refine ⟨_, _, hr.Du hu, rfl, ?_⟩
          conv => whnf
          refine ⟨_, _, hr.S _ (by omega), rfl, ?_⟩
          conv => whnf
          refine ⟨_, hr.C _ (by omega), Nat.le_of_ble_eq_true rfl, ?_⟩
          conv => whnf
          refine callee hc (s_stK hr hu5 hS ?_)
          intro h hr
          rw [hk] at hr
          conv => whnf
          refine ⟨_, _, hr.Du hu, rfl, ?_⟩
          conv => whnf
          refine ⟨_, _, hr.S _ (by omega), rfl, ?_⟩
          conv => whnf
          refine ⟨_, hr.Du hu, Nat.le_of_ble_eq_true rfl, ?_⟩
          conv => whnf
          refine callee hc (s_smallOk hr (by omega) (s := k) ⟨sS_kl _ _ _, sS_ke _ _ _⟩ hbk.1 hbk.2 c3 ?_)
          conv => whnf
          refine ⟨_, hr.Du hu, Nat.le_of_ble_eq_true rfl, ?_⟩
          conv => whnf
          refine callee hc (s_plainOk hr hu hu5 c4 ?_)
          conv => whnf
          exact h1 _ h rfl hr
      · rw [if_neg c3] at h0
        have c3 := (Bool.not_eq_true _).mp c3
        refine ⟨fun c_ => absurd c_ (by decide), fun c_ => ?_⟩
        conv => whnf
        refine hK _ _ _ _ _ _ (go hc 28 (fun K hK => ?_))
        conv => whnf
        refine ⟨_, _, hr.Du hu, rfl, ?_⟩
        conv => whnf
        refine ⟨_, _, hr.S _ (by omega), rfl, ?_⟩
        conv => whnf
        refine ⟨_, hr.Du hu, Nat.le_of_ble_eq_true rfl, ?_⟩
        conv => whnf
        refine callee hc (s_smallOk hr (by omega) (s := g) ⟨sS_gl _ _ _, sS_ge _ _ _⟩ hbg.1 hbg.2 c2 ?_)
        conv => whnf
        refine ⟨_, _, hr.Du hu, rfl, ?_⟩
        conv => whnf
        refine ⟨_, _, hr.S _ (by omega), rfl, ?_⟩
        conv => whnf
        refine ⟨_, hr.C _ (by omega), Nat.le_of_ble_eq_true rfl, ?_⟩
        conv => whnf
        refine callee hc (s_startAll hr (by omega) ?_)
        intro h hr
        rw [sC_sS_k] at hr
        conv => whnf
        refine ⟨_, _, hr.Du hu, rfl, ?_⟩
        conv => whnf
        refine ⟨_, _, hr.S _ (by omega), rfl, ?_⟩
        conv => whnf
        refine ⟨_, _, hr.Du hu, rfl, ?_⟩
        conv => whnf
        refine ⟨_, _, hr.S _ (by omega), rfl, ?_⟩
        conv => whnf
        refine ⟨_, hr.C _ (by omega), Nat.le_of_ble_eq_true rfl, ?_⟩
        conv => whnf
        refine callee hc (hca h hr _ ?_)
        intro h hr
        conv => whnf
        refine ⟨_, _, hr.Du hu, rfl, ?_⟩
        conv => whnf
        refine ⟨_, _, hr.S _ (by omega), rfl, ?_⟩
        conv => whnf
        refine ⟨_, hr.C _ (by omega), Nat.le_of_ble_eq_true rfl, ?_⟩
        conv => whnf
        refine callee hc (s_stK hr hu5 hS ?_)
        intro h hr
        rw [hk] at hr
        conv => whnf
        refine ⟨_, _, hr.Du hu, rfl, ?_⟩
        conv => whnf
        refine ⟨_, _, hr.S _ (by omega), rfl, ?_⟩
        conv => whnf
        refine ⟨_, hr.Du hu, Nat.le_of_ble_eq_true rfl, ?_⟩
        conv => whnf
        refine callee hc (s_smallNo hr (by omega) (s := k) ⟨sS_kl _ _ _, sS_ke _ _ _⟩ hbk.1 hbk.2 c3 ?_)
        conv => whnf
        exact ⟨rfl, rfl, h0 3 _ h rfl hr⟩
    · rw [if_neg c2] at h1 h0
      have c2 := (Bool.not_eq_true _).mp c2
      refine ⟨fun c_ => absurd c_ (by decide), fun c_ => ?_⟩
      conv => whnf
      refine hK _ _ _ _ _ _ (go hc 28 (fun K hK => ?_))
      conv => whnf
      refine ⟨_, _, hr.Du hu, rfl, ?_⟩
      conv => whnf
      refine ⟨_, _, hr.S _ (by omega), rfl, ?_⟩
      conv => whnf
      refine ⟨_, hr.Du hu, Nat.le_of_ble_eq_true rfl, ?_⟩
      conv => whnf
      refine callee hc (s_smallNo hr (by omega) (s := g) ⟨sS_gl _ _ _, sS_ge _ _ _⟩ hbg.1 hbg.2 c2 ?_)
      conv => whnf
      exact ⟨rfl, rfl, h0 3 _ h rfl hr⟩
  · rw [decide_eq_false c1]
    refine ⟨fun c_ => ?_, fun c_ => absurd (rfl) c_⟩
    conv => whnf
    refine hK _ _ _ _ _ _ (go hc 4 (fun K hK => ?_))
    conv => whnf
    refine ⟨_, _, hr.Du hu, rfl, ?_⟩
    conv => whnf
    refine ⟨_, hr.S _ (by omega), Nat.le_of_ble_eq_true rfl, ?_⟩
    conv => whnf
    refine callee hc (s_sclear hr hu5 ?_)
    intro h hr
    rw [sS_sS] at hr
    conv => whnf
    exact h1 emp h (if_neg c1) hr
end FINISH
