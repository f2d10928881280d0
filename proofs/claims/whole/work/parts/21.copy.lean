section COPY
variable {sc : Scr} {d : Nat} {W : AW} {w : DW} {X h : PH} {j : Nat} {Q : Out → PH → Prop}
theorem cp_loop {call : Callee} (hc : call = wpC sc (d + 1)) {o : Nat} {l : List V3} (hj : j < 21) (ho : o < 21) (hoj : o ≠ j) (hl : HL w o l) (hcap : l.length ≤ capL j)
    (hQ : ∀ w', Fr w w' [j] → HL w' j l → Q (.inl none) (toD w' ++ X)) :
    ∀ (n i : Nat) (w' : DW), i + n = l.length → Fr w w' [j] → (∀ q v, q < i → l[q]? = some v → (w'.1 j).2 (3 * q) = Int64.ofInt v.1 ∧ (w'.1 j).2 (3 * q + 1) = Int64.ofInt v.2.1 ∧ (w'.1 j).2 (3 * q + 2) = Int64.ofInt v.2.2) →
    Runs (d + 1) call sc m_X1_copyFrom Q 2 [(0, .ref (rid j)), (1, .ref (rid o)), (2, .int (nI i))] [] (toD w' ++ X) 0 0 := by
  have hcm := capL_mul j
  have hcl := capL_le j
  intro n
  induction n with
  | zero =>
    intro i w' hi hf hq
    have hl' := hl.fr hf (by simpa using hoj)
    refine go hc 4 (fun K hK => ?_)
    conv => whnf
    refine ⟨_, _, x_R _ X _ (by omega), rfl, ?_⟩
    conv => whnf
    rw [hl'.1]
    refine ⟨fun c_ => ?_, fun c_ => absurd (nI_le (by omega) (by omega)) c_⟩
    conv => whnf
    refine hK _ _ _ _ _ _ (go hc 5 (fun K hK => ?_))
    conv => whnf
    refine ⟨_, _, x_R _ X _ (by omega), rfl, ?_⟩
    conv => whnf
    refine ⟨_, x_R _ X _ (by omega), Nat.le_of_ble_eq_true rfl, ?_⟩
    rw [hl'.1]
    conv => whnf
    show Q (.inl none) (List.set (toD w' ++ X) (rid j) (.inr (1, [.ref (rid j + 1), .int (nI l.length)])))
    rw [y_R w' X l.length j hj]
    refine hQ _ (hf.tr Fr.one) ?_
    unfold HL
    rw [setR_self]
    exact ⟨rfl, by omega, fun q v hv => hq q v (by have := (List.getElem?_eq_some_iff.mp hv).1; omega) hv⟩
  | succ n ih =>
    intro i w' hi hf hq
    have hl' := hl.fr hf (by simpa using hoj)
    have hil : l[i]? = some (gt l i) := gt_some (by omega)
    refine go hc 4 (fun K hK => ?_)
    conv => whnf
    refine ⟨_, _, x_R _ X _ (by omega), rfl, ?_⟩
    conv => whnf
    rw [hl'.1]
    refine ⟨fun c_ => absurd c_ (nI_ge (by omega) (by omega)), fun c_ => ?_⟩
    conv => whnf
    refine hK _ _ _ _ _ _ (go hc 17 (fun K hK => ?_))
    conv => whnf
    refine ⟨_, x_R _ X _ (by omega), Nat.le_of_ble_eq_true rfl, ?_⟩
    conv => whnf
    refine callee hc (m_at0 ho hl' hil ?_)
    conv => whnf
    refine ⟨_, x_R _ X _ (by omega), Nat.le_of_ble_eq_true rfl, ?_⟩
    conv => whnf
    refine callee hc (m_at1 ho hl' hil ?_)
    conv => whnf
    refine ⟨_, x_R _ X _ (by omega), Nat.le_of_ble_eq_true rfl, ?_⟩
    conv => whnf
    refine callee hc (m_at2 ho hl' hil ?_)
    conv => whnf
    refine ⟨_, x_R _ X _ (by omega), Nat.le_of_ble_eq_true rfl, ?_⟩
    conv => whnf
    refine callee hc (m_write0 hj (by omega) ?_)
    skip
    conv => whnf
    try simp only [nI_1]
    refine hK _ _ _ _ _ _ (Runs.less hc [0, 1, 2] rfl rfl rfl rfl (ih _ _ (by omega) (hf.tr Fr.one) (fun q v h1 h2 => ?_)))
    rw [setR_self]
    by_cases e : q = i
    · subst e
      rw [hil] at h2
      cases h2
      exact ⟨up3_0 _ _ _ _ _, up3_1 _ _ _ _ _, up3_2 _ _ _ _ _⟩
    · obtain ⟨h3, h4, h5⟩ := hq q v (by omega) h2
      show up3 _ _ _ _ _ _ = _ ∧ up3 _ _ _ _ _ _ = _ ∧ up3 _ _ _ _ _ _ = _
      rw [up3_ne _ _ _ _ (by omega) (by omega) (by omega), up3_ne _ _ _ _ (by omega) (by omega) (by omega), up3_ne _ _ _ _ (by omega) (by omega) (by omega)]
      exact ⟨h3, h4, h5⟩
theorem r_copyFrom (hr : Rep W X h) {o : Nat} (hj : j < 21) (ho : o < 21) (hoj : o ≠ j) (hcap : (W.1 o).length ≤ capL j) (hQ : ∀ h, Rep (sl W j (W.1 o)) X h → Q (.inl none) h) : wpC sc (d + 2) 24 [.ref (rid j), .ref (rid o)] h Q := by
  obtain ⟨w, rfl, h2, hl⟩ := hr
  refine enter rfl rfl (fun call hc => go hc 2 (fun K hK => ?_))
  conv => whnf
  try simp only [nI_1]
  refine hK _ _ _ _ _ _ (Runs.less hc [0, 1, 2] rfl rfl rfl rfl (cp_loop (Q := qth _ Q) hc hj ho hoj (hl o ho) hcap (fun w' hf h' => hQ _ (Rep.fr h2 hl hf h')) (W.1 o).length 0 w (by omega) Fr.rf (fun q v hq _ => absurd hq (by omega))))
end COPY
