section ROWS
variable {sc : Scr} {d : Nat} {w : DW} {X : PH} {j : Nat} {Q : Out → PH → Prop}
theorem m_count (hj : j < 21) (hQ : Q (.inl (some (.int (nI (w.1 j).1)))) (toD w ++ X)) : wpC sc (d + 1) 19 [.ref (rid j)] (toD w ++ X) Q := by
  refine And.intro (Nat.le_of_ble_eq_true rfl) ?_
  refine Runs.go (wpC_mono sc d) 3 (fun K hK => ?_)
  conv => whnf
  refine ⟨_, _, x_R w X j hj, rfl, ?_⟩
  exact hQ
theorem m_clear (hj : j < 21) (hQ : Q (.inl none) (toD (setR w j (0, (w.1 j).2)) ++ X)) : wpC sc (d + 1) 20 [.ref (rid j)] (toD w ++ X) Q := by
  refine And.intro (Nat.le_of_ble_eq_true rfl) ?_
  refine Runs.go (wpC_mono sc d) 4 (fun K hK => ?_)
  conv => whnf
  refine ⟨_, x_R w X j hj, Nat.le_of_ble_eq_true rfl, ?_⟩
  conv => whnf
  have h := y_R w X 0 j hj
  exact h ▸ hQ
theorem m_at {i k : Nat} (hj : j < 21) (hi : 3 * i + k < capJ j) (hQ : Q (.inl (some (.long ((w.1 j).2 (3 * i + k))))) (toD w ++ X)) : wpC sc (d + 1) 21 [.ref (rid j), .int (nI i), .int (nI k)] (toD w ++ X) Q := by
  have hc := capJ_lt j
  refine And.intro (Nat.le_of_ble_eq_true rfl) ?_
  refine Runs.go (wpC_mono sc d) 20 (fun K hK => ?_)
  conv => whnf
  rw [i3]
  refine ⟨fun c => absurd c (nI_pos (by omega)), fun _ => ?_⟩
  conv => whnf
  refine ⟨_, _, x_R w X j hj, rfl, ?_⟩
  conv => whnf
  refine Or.inr ⟨_, _, _, x_A w X j hj, by decide, ?_⟩
  conv => whnf
  refine ⟨fun c => absurd c (nI_ge hi (by omega)), fun _ => ?_⟩
  conv => whnf
  refine ⟨_, _, x_R w X j hj, rfl, ?_⟩
  conv => whnf
  refine ⟨_, _, x_A w X j hj, vp_in_nI hi (by omega), ?_⟩
  conv => whnf
  rw [nI_clamp (by omega)]
  exact hQ
end ROWS
