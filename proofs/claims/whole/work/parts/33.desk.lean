/-! THE DESK's METHODS -/
theorem i32l (x : Int32) : x.toInt64 = Int64.ofInt x.toInt := by
  have h1 := x.le_toInt
  have h2 := x.toInt_lt
  refine Int64.toInt_inj.mp ?_
  rw [Int32.toInt_toInt64, oI_toInt ⟨by omega, by omega⟩]
/-- number i -/
def nm (W : AW) (i : Nat) : Int := (W.2.2.1 i).toInt
theorem va_up_map {f : Nat → Nat} {i t : Nat} (hi : i < 4) : va_up (slf f) i (some (sid t)) = slf (va_up f i t) := by
  funext k
  unfold slf
  by_cases h : k = i
  · rw [h, va_up_self, va_up_self, if_pos hi]
  · rw [va_up_ne _ _ h, va_up_ne _ _ h]
theorem slf_get {f : Nat → Nat} {i k : Nat} (hk : k < 4) (h : i = k) : slf f i = some (sid (f k)) := by
  rw [h]
  exact if_pos hk
section DESK
variable {sc : Scr} {d : Nat} {W : AW} {X h : PH} {t : Nat} {Q : Out → PH → Prop}
theorem RepS.said (hr : RepS W X h) (n : Nat) : RepS (W.1, n, W.2.2) X (h.set 0 (.inr (3, [.ref 3, .int (nI n), .ref 4, .ref (sid W.2.2.2.2.1), .int W.2.2.2.2.2.1, .int W.2.2.2.2.2.2.1, .int W.2.2.2.2.2.2.2]))) := by
  obtain ⟨S, w, rfl, h2, hl⟩ := hr
  have h2 : w.2 = W.2 := h2
  rw [← h2]
  exact ⟨S, (w.1, n, w.2.2), rfl, by rw [h2]; rfl, hl⟩
theorem RepS.lat (hr : RepS W X h) (x : Int32) : RepS (W.1, W.2.1, W.2.2.1, W.2.2.2.1, W.2.2.2.2.1, x, W.2.2.2.2.2.2) X (h.set 0 (.inr (3, [.ref 3, .int (nI W.2.1), .ref 4, .ref (sid W.2.2.2.2.1), .int x, .int W.2.2.2.2.2.2.1, .int W.2.2.2.2.2.2.2]))) := by
  obtain ⟨S, w, rfl, h2, hl⟩ := hr
  have h2 : w.2 = W.2 := h2
  rw [← h2]
  exact ⟨S, (w.1, w.2.1, w.2.2.1, w.2.2.2.1, w.2.2.2.2.1, x, w.2.2.2.2.2.2), rfl, by rw [h2]; rfl, hl⟩
theorem RepS.top (hr : RepS W X h) (x : Int32) : RepS (W.1, W.2.1, W.2.2.1, W.2.2.2.1, W.2.2.2.2.1, W.2.2.2.2.2.1, x, W.2.2.2.2.2.2.2) X (h.set 0 (.inr (3, [.ref 3, .int (nI W.2.1), .ref 4, .ref (sid W.2.2.2.2.1), .int W.2.2.2.2.2.1, .int x, .int W.2.2.2.2.2.2.2]))) := by
  obtain ⟨S, w, rfl, h2, hl⟩ := hr
  have h2 : w.2 = W.2 := h2
  rw [← h2]
  exact ⟨S, (w.1, w.2.1, w.2.2.1, w.2.2.2.1, w.2.2.2.2.1, w.2.2.2.2.2.1, x, w.2.2.2.2.2.2.2), rfl, by rw [h2]; rfl, hl⟩
theorem RepS.bot (hr : RepS W X h) (x : Int32) : RepS (W.1, W.2.1, W.2.2.1, W.2.2.2.1, W.2.2.2.2.1, W.2.2.2.2.2.1, W.2.2.2.2.2.2.1, x) X (h.set 0 (.inr (3, [.ref 3, .int (nI W.2.1), .ref 4, .ref (sid W.2.2.2.2.1), .int W.2.2.2.2.2.1, .int W.2.2.2.2.2.2.1, .int x]))) := by
  obtain ⟨S, w, rfl, h2, hl⟩ := hr
  have h2 : w.2 = W.2 := h2
  rw [← h2]
  exact ⟨S, (w.1, w.2.1, w.2.2.1, w.2.2.2.1, w.2.2.2.2.1, w.2.2.2.2.2.1, w.2.2.2.2.2.2.1, x), rfl, by rw [h2]; rfl, hl⟩
theorem RepS.num (hr : RepS W X h) (f : Nat → Int32) : RepS (W.1, W.2.1, f, W.2.2.2) X (h.set 3 (.inl (0, 6, .inl f))) := by
  obtain ⟨S, w, rfl, h2, hl⟩ := hr
  have h2 : w.2 = W.2 := h2
  exact ⟨S, (w.1, w.2.1, f, w.2.2.2), rfl, by rw [h2]; rfl, hl⟩
theorem RepS.draft (hr : RepS W X h) (t : Nat) : RepS (W.1, W.2.1, W.2.2.1, W.2.2.2.1, t, W.2.2.2.2.2) X (h.set 0 (.inr (3, [.ref 3, .int (nI W.2.1), .ref 4, .ref (sid t), .int W.2.2.2.2.2.1, .int W.2.2.2.2.2.2.1, .int W.2.2.2.2.2.2.2]))) := by
  obtain ⟨S, w, rfl, h2, hl⟩ := hr
  have h2 : w.2 = W.2 := h2
  rw [← h2]
  exact ⟨S, (w.1, w.2.1, w.2.2.1, w.2.2.2.1, t, w.2.2.2.2.2), rfl, by rw [h2]; rfl, hl⟩
theorem RepS.slot (hr : RepS W X h) (i t : Nat) (hi : i < 4) : RepS (W.1, W.2.1, W.2.2.1, va_up W.2.2.2.1 i t, W.2.2.2.2) X (h.set 4 (.inl (3, 4, .inr (.inr (.inr (.inr (va_up (slf W.2.2.2.1) i (some (sid t))))))))) := by
  obtain ⟨S, w, rfl, h2, hl⟩ := hr
  have h2 : w.2 = W.2 := h2
  rw [va_up_map hi]
  exact ⟨S, (w.1, w.2.1, w.2.2.1, va_up W.2.2.2.1 i t, w.2.2.2.2), rfl, by rw [h2]; rfl, hl⟩
theorem s_say (hr : RepS W X h) (hs : W.2.1 ≤ 6) {x : Int32} (h1 : x < -30 ∨ ¬ x ≤ 30 → Q (.inr 1) h) (h2 : ¬ x < -30 → x ≤ 30 → W.2.1 = 6 → Q (.inr 2) h)
    (h3 : ¬ x < -30 → x ≤ 30 → W.2.1 < 6 → ∀ h, RepS (W.1, W.2.1 + 1, upd W.2.2.1 W.2.1 x, W.2.2.2) X h → Q (.inl (some (.int (nI (W.2.1 + 1))))) h) : wpC sc (d + 6) 42 [.ref 0, .int x] h Q := by
  refine enter rfl rfl (fun call hc => go hc 3 (fun K hK => ?_))
  conv => whnf
  have hbad : (x < -30 ∨ ¬ x ≤ 30) → Runs (d + 5) call sc m_X3_say (qth (mTh m_X3_say) Q) 12 [(0, .ref 0), (1, .int x)] [] h 1 6 := fun q => by
    refine go hc 1 (fun K hK => ?_)
    conv => whnf
    exact ⟨by omega, Nat.le_of_ble_eq_true rfl, rfl, rfl, h1 q⟩
  by_cases c1 : x < -30
  · refine ⟨fun c_ => ?_, fun c_ => absurd (c1) c_⟩
    conv => whnf
    exact hK _ _ _ _ _ _ (hbad (Or.inl c1))
  · refine ⟨fun c_ => absurd c_ (c1), fun c_ => ?_⟩
    conv => whnf
    refine hK _ _ _ _ _ _ (go hc 3 (fun K hK => ?_))
    conv => whnf
    by_cases c2 : x ≤ 30
    · refine ⟨fun c_ => ?_, fun c_ => absurd (c2) c_⟩
      conv => whnf
      refine hK _ _ _ _ _ _ (go hc 4 (fun K hK => ?_))
      conv => whnf
      refine ⟨_, _, hr.D, rfl, ?_⟩
      conv => whnf
      by_cases c3 : W.2.1 < 6
      · refine ⟨fun c_ => ?_, fun c_ => absurd (nI_lt (b := 6) c3 (by omega)) c_⟩
        conv => whnf
        refine hK _ _ _ _ _ _ (go hc 15 (fun K hK => ?_))
        conv => whnf
        refine ⟨_, _, hr.D, rfl, ?_⟩
        conv => whnf
        refine ⟨_, _, hr.D, rfl, ?_⟩
        conv => whnf
        refine ⟨_, _, hr.N, vp_in_nI c3 (by omega), ?_⟩
        rw [nI_clamp (by omega)]
        replace hr := hr.num (upd W.2.2.1 W.2.1 x)
        conv => whnf
        refine ⟨_, _, hr.D, rfl, ?_⟩
        conv => whnf
        refine ⟨_, hr.D, Nat.le_of_ble_eq_true rfl, ?_⟩
        rw [nI_1]
        replace hr := hr.said (W.2.1 + 1)
        conv => whnf
        refine ⟨_, _, hr.D, rfl, ?_⟩
        conv => whnf
        exact h3 c1 c2 c3 _ hr
      · refine ⟨fun c_ => absurd c_ (nI_nlt (b := 6) (by omega) (by omega)), fun c_ => ?_⟩
        conv => whnf
        refine hK _ _ _ _ _ _ (go hc 1 (fun K hK => ?_))
        conv => whnf
        exact ⟨by omega, Nat.le_of_ble_eq_true rfl, rfl, rfl, h2 c1 c2 (by omega)⟩
    · refine ⟨fun c_ => absurd c_ (c2), fun c_ => ?_⟩
      conv => whnf
      exact hK _ _ _ _ _ _ (hbad (Or.inr c2))
end DESK
