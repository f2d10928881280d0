/-! THE CLASS'S NUMBERS STAY SMALL -/
theorem sm_bd {k : LE} (h : smB k = true) : (∀ v ∈ k.1, bdV 30 v) ∧ ∀ v ∈ k.2, bdV 30 v := by
  unfold smB at h
  rw [ok3_b, Bool.and_eq_true] at h
  exact ⟨fun v hv => b30_bd (List.all_eq_true.mp h.1 v hv), fun v hv => b30_bd (List.all_eq_true.mp h.2 v hv)⟩
theorem rows_bd {B : Int} {L E : List V3} (h1 : ∀ v ∈ L, bdV B v) (h2 : ∀ v ∈ E, bdV B v) : ∀ v ∈ rowsC L E, bdV B v := fun v hv => by
  rcases mem_rowsC.mp hv with ⟨l, hl, rfl | rfl⟩ | q
  · exact h1 _ hl
  · exact bdV_neg (h1 _ hl)
  · exact h2 v q
theorem bd_30 {v : V3} (h : bdV 30 v) : bdV 2700 v := bdV_mono (by decide) h
theorem okR_as {a0 as : List V3} (h0 : ∀ v ∈ a0, bdV 2700 v) (h1 : ∀ v ∈ as, bdV 2700 v) (hl : (cutA (e3, []) a0).2.length + as.length ≤ 48) : okR (cutA (e3, []) a0) as := okR_of (cutA_all a0).1 h0 h1 hl
theorem okR_e3 {as : List V3} (h1 : ∀ v ∈ as, bdV 2700 v) (hl : as.length ≤ 48) : okR (e3, []) as := okR_as (a0 := []) (fun _ q => absurd q List.not_mem_nil) h1 (by show 0 + as.length ≤ 48; omega)
theorem okR_pl0 {as : List V3} (h1 : ∀ v ∈ as, bdV 2700 v) (hl : as.length ≤ 47) : okR pl0 as := okR_as (a0 := [(1, 0, 0)]) (fun v q => by rw [List.mem_singleton.mp q]; exact ⟨⟨by decide, by decide⟩, ⟨by decide, by decide⟩, ⟨by decide, by decide⟩⟩) h1 (by show 1 + as.length ≤ 48; omega)
theorem np_p {as : List V3} {p : V3} (hp : p ∈ as) (h0 : p.1 ≠ 0) : ∀ x, Ln (Ce (fun v => v ∈ as)) x → x.2.1 = 0 → x.2.2 = 0 → x = O3 := fun x hx h1 h2 => by
  have a := hx.1 p hp
  have b := hx.2 p hp
  rw [dot_neg'] at b
  have z : dot p x = 0 := by omega
  unfold dot at z
  rw [h1, h2] at z
  exact v_ext ((Int.mul_eq_zero.mp (show p.1 * x.1 = 0 by omega)).resolve_left h0) h1 h2
theorem okS_as {as : List V3} (hb : ∀ v ∈ as, bdV 2700 v) (hl : as.length < 900) {p : V3} (hp : p ∈ as) (h0 : p.1 ≠ 0) : okS (cutA (e3, []) as) := by
  obtain ⟨hI, hlen⟩ := cutA_all as
  have hl2 := hI.le2 hp (fun q => h0 (by rw [q]))
  exact hI.okS hl2 (fun x hx => np_p hp h0 x ((hI.ln hl2).mpr hx)) hb (by omega)
theorem set_len {as : List V3} (hl : as.length < 900) {p : V3} (hp : p ∈ as) (h0 : p.1 ≠ 0) : (stt (cutA (e3, []) as).1 (cutA (e3, []) as).2).1.length ≤ 2 ∧ (stt (cutA (e3, []) as).1 (cutA (e3, []) as).2).2.1.length = (cutA (e3, []) as).2.length := by
  obtain ⟨hI, hlen⟩ := cutA_all as
  have hl2 := hI.le2 hp (fun q => h0 (by rw [q]))
  obtain ⟨m1, m2, m3, m4, m5, m6⟩ := hI.settled hl2 (np_p hp h0) (by omega) (Du.of _)
  exact ⟨by omega, m5⟩
theorem okFG_nil : okFG ([], []) := by
  have z : bdL ([] : List V3) := fun _ q => absurd q List.not_mem_nil
  exact ⟨⟨z, z, z, z, z, z⟩, fun q => absurd q (by decide)⟩
theorem okFG_as {as : List V3} (he : ((1, 0, 0) : V3) ∈ as) (hb : ∀ v ∈ as, bdV 2700 v) (hl : as.length < 900) (h43 : (cutA (e3, []) as).2.length ≤ 43) : okFG (cutA (e3, []) as) := by
  refine ⟨okS_as hb hl he (by simp), fun hr hs => ?_⟩
  obtain ⟨l1, l2⟩ := set_len hl he (by simp)
  obtain ⟨b1, b2⟩ := sm_bd hs
  obtain ⟨q, hq, q0⟩ := rc_lt.mp hr
  have hrl : (rowsC (stG (cutA (e3, []) as)).1 (stG (cutA (e3, []) as)).2).length ≤ 47 := by
    rw [rowsC_len]
    have : (stG (cutA (e3, []) as)).2.length = (stt (cutA (e3, []) as).1 (cutA (e3, []) as).2).2.1.length := (sortE_perm 1 _).length_eq
    have h3 : (stG (cutA (e3, []) as)).1.length ≤ 2 := l1
    omega
  have hrb := rows_bd (fun v hv => bd_30 (b1 v hv)) (fun v hv => bd_30 (b2 v hv))
  exact ⟨okR_e3 hrb (by omega), okS_as hrb (by omega) (mem_rowsC.mpr (Or.inr hq)) q0⟩
theorem okFK_2 {s : LE} (hl : 2 * (stK s).1.length + (stK s).2.length ≤ 47) (hs : smB (stK s) = true) : okR pl0 (rowsC (stK s).1 (stK s).2) ∧ okS (cutA pl0 (rowsC (stK s).1 (stK s).2)) := by
  obtain ⟨b1, b2⟩ := sm_bd hs
  have hrb := rows_bd (fun v hv => bd_30 (b1 v hv)) (fun v hv => bd_30 (b2 v hv))
  refine ⟨okR_pl0 hrb (by rw [rowsC_len]; exact hl), ?_⟩
  rw [cutA_pl0]
  refine okS_as (fun v hv => ?_) ?_ (p := (1, 0, 0)) List.mem_cons_self (by simp)
  · rcases List.mem_cons.mp hv with rfl | q
    · exact ⟨⟨by decide, by decide⟩, ⟨by decide, by decide⟩, ⟨by decide, by decide⟩⟩
    · exact hrb v q
  · rw [List.length_cons, rowsC_len]; omega
theorem okFK_as {as : List V3} {p : V3} (hp : p ∈ as) (h0 : p.1 ≠ 0) (hb : ∀ v ∈ as, bdV 2700 v) (hl : as.length < 900) (h43 : (cutA (e3, []) as).2.length ≤ 43) : okFK (cutA (e3, []) as) := by
  refine ⟨okS_as hb hl hp h0, fun hs => okFK_2 ?_ hs⟩
  obtain ⟨l1, l2⟩ := set_len hl hp h0
  have h1 : (stK (cutA (e3, []) as)).2.length = ((stt (cutA (e3, []) as).1 (cutA (e3, []) as).2).2.1.filter nid).length := (sortE_perm 0 _).length_eq
  have h2 := List.length_filter_le nid (stt (cutA (e3, []) as).1 (cutA (e3, []) as).2).2.1
  have h3 : (stK (cutA (e3, []) as)).1.length ≤ 2 := l1
  omega
theorem okFK_e3 : okFK (e3, []) := by
  have b : ∀ l : List V3, (∀ v ∈ l, v = (1, 0, 0) ∨ v = (0, 1, 0) ∨ v = (0, 0, 1)) → bdL l := fun l h v hv => by
    rcases h v hv with rfl | rfl | rfl <;> exact ⟨⟨by decide, by decide⟩, ⟨by decide, by decide⟩, ⟨by decide, by decide⟩⟩
  refine ⟨⟨b _ (by decide), b _ (by decide), b _ (by decide), b _ (by decide), b _ (by decide), b _ (by decide)⟩, fun hs => okFK_2 (by decide) hs⟩
theorem okR_j : ∀ {as bs : List V3} {s : LE}, okR s as → okR (cutA s as) bs → okR s (as ++ bs)
  | [], _, _, _, h2 => h2
  | _ :: _, _, _, h1, h2 => ⟨h1.1, h1.2.1, okR_j h1.2.2 h2⟩
theorem sumR_len (p : V3) (E : List V3) : (sumR p E).length ≤ E.length := by
  unfold sumR
  induction E with
  | nil => simp
  | cons q E ih =>
    rw [List.flatMap_cons, List.length_append, List.length_cons]
    have : (if 0 < p.1 ∧ 0 < q.1 then [sumV p q] else []).length ≤ 1 := by split <;> simp
    omega
theorem pos_len (E : List V3) : (E.filter fun v => decide (0 < v.1)).length ≤ E.length := List.length_filter_le _ _
theorem sums_app (E1 E1' E2 : List V3) : sums (E1 ++ E1') E2 = sums E1 E2 ++ sums E1' E2 := List.flatMap_append
theorem sums_1 (p : V3) (E2 : List V3) : sums [p] E2 = sumR p E2 := by unfold sums; simp
theorem okR_sums {E2 : List V3} (h2 : E2.length ≤ 12) : ∀ {t d : List V3}, d.length + t.length ≤ 12 → (∀ v ∈ sums (d ++ t) E2, bdV 2700 v) → okR (cutA (e3, []) (sums d E2)) (sums t E2)
  | [], d, hl, hb => by
    have l := sums_len d E2
    have q1 := pos_len d
    have q2 := pos_len E2
    rw [List.append_nil] at hb
    exact okR_as hb (fun _ q => absurd q List.not_mem_nil) (by rw [show (sums [] E2).length = 0 from rfl]; rw [List.length_nil] at hl; omega)
  | p :: t, d, hl, hb => by
    have l := sums_len d E2
    have q1 := pos_len d
    have q2 := pos_len E2
    rw [List.length_cons] at hl
    have e : sums (p :: t) E2 = sumR p E2 ++ sums t E2 := List.flatMap_cons
    rw [e]
    rw [sums_app, e] at hb
    have r := sumR_len p E2
    refine okR_j (okR_as (fun v hv => hb v (List.mem_append_left _ hv)) (fun v hv => hb v (List.mem_append_right _ (List.mem_append_left _ hv))) (by omega)) ?_
    rw [← cutA_app, ← sums_1, ← sums_app]
    refine okR_sums h2 (t := t) (d := d ++ [p]) (by rw [List.length_append]; simp; omega) fun v hv => hb v ?_
    rw [List.append_assoc, sums_app, List.singleton_append, e] at hv
    exact hv
theorem cutA_grow : ∀ {as : List V3} {s : LE} {A : V3 → Prop}, Inv_z A s.1 s.2 → (cutA s as).2.length ≤ s.2.length + as.length
  | [], s, A, h => by show s.2.length ≤ s.2.length + 0; omega
  | a :: as, s, A, h => by
    obtain ⟨c1, c2⟩ := h.cut a
    have c2 : (cutF a s).2.length ≤ s.2.length + 1 := c2
    have := cutA_grow (as := as) (s := cutF a s) c1
    rw [cutA_cons, List.length_cons]
    omega
/-- sums, then directions -/
theorem okR_smR {E1 E2 D : List V3} (h1 : E1.length ≤ 12) (h2 : E2.length ≤ 12) (hD : (E1.filter fun v => decide (0 < v.1)).length + (E2.filter fun v => decide (0 < v.1)).length + D.length ≤ 40) (hb : ∀ v ∈ sums E1 E2 ++ D, bdV 2700 v) :
    okR (e3, []) (sums E1 E2 ++ D) ∧ (cutA (e3, []) (sums E1 E2 ++ D)).2.length ≤ 43 := by
  have l := sums_len E1 E2
  refine ⟨okR_j ?_ (okR_as (fun v hv => hb v (List.mem_append_left _ hv)) (fun v hv => hb v (List.mem_append_right _ hv)) (by omega)), ?_⟩
  · exact okR_sums h2 (t := E1) (d := []) (by simpa using h1) fun v hv => hb v (List.mem_append_left _ hv)
  · rw [cutA_app]
    have := cutA_grow (as := D) (cutA_all (sums E1 E2)).1
    omega
