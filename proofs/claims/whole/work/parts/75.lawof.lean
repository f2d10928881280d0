/-! THE LAW, from a link that every call keeps -/
def m0z : MM := fun _ _ => 0
section START
variable {sc : Scr} {d : Nat} {Q : Out → PH → Prop}
theorem k_X4 (hQ : Q (.inl none) (toD w0 ++ toM m0z)) : wpC sc (d + 1) 74 [.ref 60] (toD w0 ++ [.inr (4, [.int 0, .int 0, .null, .null, .null, .int 0, .int 0, .int 0, .null, .null, .null, .null, .null, .null, .null, .null, .int 0, .long 0, .long 0])]) Q := by
  refine enter rfl rfl (fun call hc => go hc 47 (fun K hK => ?_))
  conv => whnf
  refine ⟨Nat.le_of_ble_eq_true rfl, ?_⟩
  conv => whnf
  refine ⟨6, by decide, Nat.le_of_ble_eq_true rfl, rfl, ?_⟩
  conv => whnf
  refine ⟨Nat.le_of_ble_eq_true rfl, ?_⟩
  conv => whnf
  refine ⟨_, rfl, Nat.le_of_ble_eq_true rfl, ?_⟩
  change stpN _ _ _ _ _ _ _ _ _ _ (toD w0 ++ [.inr (4, [.int 0, .int 0, .ref 61, .null, .null, .int 0, .int 0, .int 0, .null, .null, .null, .null, .null, .null, .null, .null, .int 0, .long 0, .long 0]), .inl (0, 6, .inl (fun _ => 0))]) _ _
  conv => whnf
  refine ⟨20, by decide, Nat.le_of_ble_eq_true rfl, rfl, ?_⟩
  conv => whnf
  refine ⟨Nat.le_of_ble_eq_true rfl, ?_⟩
  conv => whnf
  refine ⟨_, rfl, Nat.le_of_ble_eq_true rfl, ?_⟩
  change stpN _ _ _ _ _ _ _ _ _ _ (toD w0 ++ [.inr (4, [.int 0, .int 0, .ref 61, .ref 62, .null, .int 0, .int 0, .int 0, .null, .null, .null, .null, .null, .null, .null, .null, .int 0, .long 0, .long 0]), .inl (0, 6, .inl (fun _ => 0)), .inl (0, 20, .inl (fun _ => 0))]) _ _
  conv => whnf
  refine ⟨960, by decide, Nat.le_of_ble_eq_true rfl, rfl, ?_⟩
  conv => whnf
  refine ⟨Nat.le_of_ble_eq_true rfl, ?_⟩
  conv => whnf
  refine ⟨_, rfl, Nat.le_of_ble_eq_true rfl, ?_⟩
  change stpN _ _ _ _ _ _ _ _ _ _ (toD w0 ++ [.inr (4, [.int 0, .int 0, .ref 61, .ref 62, .ref 63, .int 0, .int 0, .int 0, .null, .null, .null, .null, .null, .null, .null, .null, .int 0, .long 0, .long 0]), .inl (0, 6, .inl (fun _ => 0)), .inl (0, 20, .inl (fun _ => 0)), .inl (0, 960, .inl (fun _ => 0))]) _ _
  conv => whnf
  refine ⟨1800, by decide, Nat.le_of_ble_eq_true rfl, rfl, ?_⟩
  conv => whnf
  refine ⟨Nat.le_of_ble_eq_true rfl, ?_⟩
  conv => whnf
  refine ⟨_, rfl, Nat.le_of_ble_eq_true rfl, ?_⟩
  change stpN _ _ _ _ _ _ _ _ _ _ (toD w0 ++ [.inr (4, [.int 0, .int 0, .ref 61, .ref 62, .ref 63, .int 0, .int 0, .int 0, .ref 64, .null, .null, .null, .null, .null, .null, .null, .int 0, .long 0, .long 0]), .inl (0, 6, .inl (fun _ => 0)), .inl (0, 20, .inl (fun _ => 0)), .inl (0, 960, .inl (fun _ => 0)), .inl (1, 1800, .inr (.inl (fun _ => 0)))]) _ _
  conv => whnf
  refine ⟨1800, by decide, Nat.le_of_ble_eq_true rfl, rfl, ?_⟩
  conv => whnf
  refine ⟨Nat.le_of_ble_eq_true rfl, ?_⟩
  conv => whnf
  refine ⟨_, rfl, Nat.le_of_ble_eq_true rfl, ?_⟩
  change stpN _ _ _ _ _ _ _ _ _ _ (toD w0 ++ [.inr (4, [.int 0, .int 0, .ref 61, .ref 62, .ref 63, .int 0, .int 0, .int 0, .ref 64, .ref 65, .null, .null, .null, .null, .null, .null, .int 0, .long 0, .long 0]), .inl (0, 6, .inl (fun _ => 0)), .inl (0, 20, .inl (fun _ => 0)), .inl (0, 960, .inl (fun _ => 0)), .inl (1, 1800, .inr (.inl (fun _ => 0))), .inl (1, 1800, .inr (.inl (fun _ => 0)))]) _ _
  conv => whnf
  refine ⟨1800, by decide, Nat.le_of_ble_eq_true rfl, rfl, ?_⟩
  conv => whnf
  refine ⟨Nat.le_of_ble_eq_true rfl, ?_⟩
  conv => whnf
  refine ⟨_, rfl, Nat.le_of_ble_eq_true rfl, ?_⟩
  change stpN _ _ _ _ _ _ _ _ _ _ (toD w0 ++ [.inr (4, [.int 0, .int 0, .ref 61, .ref 62, .ref 63, .int 0, .int 0, .int 0, .ref 64, .ref 65, .ref 66, .null, .null, .null, .null, .null, .int 0, .long 0, .long 0]), .inl (0, 6, .inl (fun _ => 0)), .inl (0, 20, .inl (fun _ => 0)), .inl (0, 960, .inl (fun _ => 0)), .inl (1, 1800, .inr (.inl (fun _ => 0))), .inl (1, 1800, .inr (.inl (fun _ => 0))), .inl (1, 1800, .inr (.inl (fun _ => 0)))]) _ _
  conv => whnf
  refine ⟨3, by decide, Nat.le_of_ble_eq_true rfl, rfl, ?_⟩
  conv => whnf
  refine ⟨Nat.le_of_ble_eq_true rfl, ?_⟩
  conv => whnf
  refine ⟨_, rfl, Nat.le_of_ble_eq_true rfl, ?_⟩
  change stpN _ _ _ _ _ _ _ _ _ _ (toD w0 ++ [.inr (4, [.int 0, .int 0, .ref 61, .ref 62, .ref 63, .int 0, .int 0, .int 0, .ref 64, .ref 65, .ref 66, .ref 67, .null, .null, .null, .null, .int 0, .long 0, .long 0]), .inl (0, 6, .inl (fun _ => 0)), .inl (0, 20, .inl (fun _ => 0)), .inl (0, 960, .inl (fun _ => 0)), .inl (1, 1800, .inr (.inl (fun _ => 0))), .inl (1, 1800, .inr (.inl (fun _ => 0))), .inl (1, 1800, .inr (.inl (fun _ => 0))), .inl (1, 3, .inr (.inl (fun _ => 0)))]) _ _
  conv => whnf
  refine ⟨3, by decide, Nat.le_of_ble_eq_true rfl, rfl, ?_⟩
  conv => whnf
  refine ⟨Nat.le_of_ble_eq_true rfl, ?_⟩
  conv => whnf
  refine ⟨_, rfl, Nat.le_of_ble_eq_true rfl, ?_⟩
  change stpN _ _ _ _ _ _ _ _ _ _ (toD w0 ++ [.inr (4, [.int 0, .int 0, .ref 61, .ref 62, .ref 63, .int 0, .int 0, .int 0, .ref 64, .ref 65, .ref 66, .ref 67, .ref 68, .null, .null, .null, .int 0, .long 0, .long 0]), .inl (0, 6, .inl (fun _ => 0)), .inl (0, 20, .inl (fun _ => 0)), .inl (0, 960, .inl (fun _ => 0)), .inl (1, 1800, .inr (.inl (fun _ => 0))), .inl (1, 1800, .inr (.inl (fun _ => 0))), .inl (1, 1800, .inr (.inl (fun _ => 0))), .inl (1, 3, .inr (.inl (fun _ => 0))), .inl (1, 3, .inr (.inl (fun _ => 0)))]) _ _
  conv => whnf
  refine ⟨600, by decide, Nat.le_of_ble_eq_true rfl, rfl, ?_⟩
  conv => whnf
  refine ⟨Nat.le_of_ble_eq_true rfl, ?_⟩
  conv => whnf
  refine ⟨_, rfl, Nat.le_of_ble_eq_true rfl, ?_⟩
  change stpN _ _ _ _ _ _ _ _ _ _ (toD w0 ++ [.inr (4, [.int 0, .int 0, .ref 61, .ref 62, .ref 63, .int 0, .int 0, .int 0, .ref 64, .ref 65, .ref 66, .ref 67, .ref 68, .ref 69, .null, .null, .int 0, .long 0, .long 0]), .inl (0, 6, .inl (fun _ => 0)), .inl (0, 20, .inl (fun _ => 0)), .inl (0, 960, .inl (fun _ => 0)), .inl (1, 1800, .inr (.inl (fun _ => 0))), .inl (1, 1800, .inr (.inl (fun _ => 0))), .inl (1, 1800, .inr (.inl (fun _ => 0))), .inl (1, 3, .inr (.inl (fun _ => 0))), .inl (1, 3, .inr (.inl (fun _ => 0))), .inl (2, 600, .inl (fun _ => 0))]) _ _
  conv => whnf
  refine ⟨5, by decide, Nat.le_of_ble_eq_true rfl, rfl, ?_⟩
  conv => whnf
  refine ⟨Nat.le_of_ble_eq_true rfl, ?_⟩
  conv => whnf
  refine ⟨_, rfl, Nat.le_of_ble_eq_true rfl, ?_⟩
  change stpN _ _ _ _ _ _ _ _ _ _ (toD w0 ++ [.inr (4, [.int 0, .int 0, .ref 61, .ref 62, .ref 63, .int 0, .int 0, .int 0, .ref 64, .ref 65, .ref 66, .ref 67, .ref 68, .ref 69, .ref 70, .null, .int 0, .long 0, .long 0]), .inl (0, 6, .inl (fun _ => 0)), .inl (0, 20, .inl (fun _ => 0)), .inl (0, 960, .inl (fun _ => 0)), .inl (1, 1800, .inr (.inl (fun _ => 0))), .inl (1, 1800, .inr (.inl (fun _ => 0))), .inl (1, 1800, .inr (.inl (fun _ => 0))), .inl (1, 3, .inr (.inl (fun _ => 0))), .inl (1, 3, .inr (.inl (fun _ => 0))), .inl (2, 600, .inl (fun _ => 0)), .inl (0, 5, .inl (fun _ => 0))]) _ _
  conv => whnf
  refine ⟨9000, by decide, Nat.le_of_ble_eq_true rfl, rfl, ?_⟩
  conv => whnf
  refine ⟨Nat.le_of_ble_eq_true rfl, ?_⟩
  conv => whnf
  refine ⟨_, rfl, Nat.le_of_ble_eq_true rfl, ?_⟩
  change stpN _ _ _ _ _ _ _ _ _ _ (toD w0 ++ [.inr (4, [.int 0, .int 0, .ref 61, .ref 62, .ref 63, .int 0, .int 0, .int 0, .ref 64, .ref 65, .ref 66, .ref 67, .ref 68, .ref 69, .ref 70, .ref 71, .int 0, .long 0, .long 0]), .inl (0, 6, .inl (fun _ => 0)), .inl (0, 20, .inl (fun _ => 0)), .inl (0, 960, .inl (fun _ => 0)), .inl (1, 1800, .inr (.inl (fun _ => 0))), .inl (1, 1800, .inr (.inl (fun _ => 0))), .inl (1, 1800, .inr (.inl (fun _ => 0))), .inl (1, 3, .inr (.inl (fun _ => 0))), .inl (1, 3, .inr (.inl (fun _ => 0))), .inl (2, 600, .inl (fun _ => 0)), .inl (0, 5, .inl (fun _ => 0)), .inl (1, 9000, .inr (.inl (fun _ => 0)))]) _ _
  conv => whnf
  exact hQ
end START
def W0a : AW := (fun _ => [], 0, fun _ => 0, fun i => i, 4, -1, 0, 0)
def a0r : RSt := (fun _ _ => [], fun _ => 0, 0, false, 0, 0)
theorem rep0 (X : PH) : RepS W0a X (toD w0 ++ X) := by
  refine ⟨[], w0, rfl, rfl, fun j _ => ?_⟩
  have e : (sl W0a 20 []).1 j = [] := by
    by_cases c : j = 20
    · rw [c]; exact sl_self _ _ _
    · rw [sl_ne _ _ c]; rfl
  rw [e]
  exact ⟨rfl, by simp, fun i v hi => by simp at hi⟩
theorem rz0 : RZ m0z a0r := ⟨fun s k _ _ => ⟨rfl, fun i hi => absurd hi (Nat.not_lt_zero _), by show (0 : Nat) ≤ 16; decide⟩, fun _ _ => rfl, rfl, rfl, rfl, rfl⟩
section LAW2
variable {P : AW → RSt → Prop}
theorem lw_hush {L : Nat} {xs : Nat → Int32} {call : Callee} (hc : call = wpC (L, xs) 11) (G : Good P) {i : Nat} {W : AW} {a : RSt} {m : MM} {o : Nat → Int64} {h : PH} (hP : P W a) (rz : RZ m a) (hr : RepS W (toM m ++ [oA o]) h) {r s : Nat}
    {ex : LV} (hex : Hex ex) (next : ∀ W a m o h rc rs ex, Hex ex → P W a → RZ m a → RepS W (toM m ++ [oA o]) h → r ≤ rc → s ≤ rs → Runs 11 call (L, xs) m_L_law Ql 23 (hdL (i + 5) ex) [] h rc rs) :
    Runs 11 call (L, xs) m_L_law Ql 164 (hdL i ex) [] h (r + 20) (s + 100) := by
  refine go hc 7 (fun K hK => ?_)
  conv => whnf
  refine ⟨_, hr.D, Nat.le_of_ble_eq_true rfl, ?_⟩
  conv => whnf
  refine callee hc (s_hush hr ?_)
  intro h1 hr1
  obtain ⟨D, hm, back⟩ := hr1.model
  conv => whnf
  refine ⟨_, hm.M, Nat.le_of_ble_eq_true rfl, ?_⟩
  conv => whnf
  refine callee hc (e_hush hm rz ?_)
  intro m2 h2 hm2 rz2 c2
  conv => whnf
  exact hK _ _ _ _ _ _ (by rw [i5]; exact next _ _ _ _ _ _ _ _ hex (G.2.2.1 W a hP) rz2 (back m2 h2 hm2) (by omega) (by omega))
theorem lw_none {L : Nat} {xs : Nat → Int32} {call : Callee} (hc : call = wpC (L, xs) 11) {i : Nat} {W : AW} {a : RSt} {m : MM} {o : Nat → Int64} {h : PH} (hP : P W a) (rz : RZ m a) (hr : RepS W (toM m ++ [oA o]) h) {r s : Nat}
    {ex : LV} (hex : Hex ex) (next : ∀ W a m o h rc rs ex, Hex ex → P W a → RZ m a → RepS W (toM m ++ [oA o]) h → r ≤ rc → s ≤ rs → Runs 11 call (L, xs) m_L_law Ql 23 (hdL (i + 5) ex) [] h rc rs) :
    Runs 11 call (L, xs) m_L_law Ql 1061 (hdL i ex) [] h (r + 20) (s + 100) := by
  refine go hc 2 (fun K hK => ?_)
  conv => whnf
  exact hK _ _ _ _ _ _ (by rw [i5]; exact next _ _ _ _ _ _ _ _ hex hP rz hr (by omega) (by omega))
theorem lm5 {L : Nat} (hL : L ≤ 320) : (Int32.ofNat L - 5).toInt = (L : Int) - 5 := by
  have e : Int32.ofNat L - 5 = Int32.ofInt ((L : Int) - 5) := by rw [Int32.ofInt_sub]; rfl
  rw [e]
  exact Int32.toInt_ofInt_of_le (by omega) (by omega)
theorem lw_loop {L : Nat} {xs : Nat → Int32} {call : Callee} (hc : call = wpC (L, xs) 11) (hL : L ≤ 320) (G : Good P) : ∀ (n i : Nat) (W : AW) (a : RSt) (m : MM) (o : Nat → Int64) (h : PH) (rc rs : Nat) (ex : LV), L < i + 5 * (n + 1) → i ≤ L + 5 → Hex ex → P W a → RZ m a → RepS W (toM m ++ [oA o]) h → 20 * n ≤ rc → 100 * n ≤ rs →
    Runs 11 call (L, xs) m_L_law Ql 23 (hdL i ex) [] h rc rs := by
  intro n
  induction n with
  | zero =>
    intro i W a m o h rc rs ex hn hi hex hP rz hr h1 h2
    refine go hc 6 (fun K hK => ?_)
    conv => whnf
    refine Or.inl ⟨rfl, ?_⟩
    conv => whnf
    refine ⟨fun c_ => ?_, fun c_ => absurd (by rw [Int32.lt_iff_toInt_lt, lm5 hL, nI_int (by omega)]; omega) c_⟩
    conv => whnf
    refine hK _ _ _ _ _ _ (go hc 2 (fun K hK => ?_))
    conv => whnf
    exact ⟨Or.inr rfl, rfl⟩
  | succ n ih =>
    intro i W a m o h rc rs ex hn hi hex hP rz hr h1 h2
    by_cases c : i + 5 ≤ L
    · obtain ⟨r, rfl⟩ : ∃ r, rc = r + 20 := ⟨rc - 20, by omega⟩
      obtain ⟨s, rfl⟩ : ∃ s, rs = s + 100 := ⟨rs - 100, by omega⟩
      have next : ∀ W a m o h rc rs ex, Hex ex → P W a → RZ m a → RepS W (toM m ++ [oA o]) h → r ≤ rc → s ≤ rs → Runs 11 call (L, xs) m_L_law Ql 23 (hdL (i + 5) ex) [] h rc rs := fun W a m o h rc rs ex q1 q2 q3 q4 q5 q6 => ih (i + 5) W a m o h rc rs ex (by omega) (by omega) q1 q2 q3 q4 (by omega) (by omega)
      refine go hc 6 (fun K hK => ?_)
      conv => whnf
      refine Or.inl ⟨rfl, ?_⟩
      conv => whnf
      refine ⟨fun c_ => absurd c_ (by rw [Int32.lt_iff_toInt_lt, lm5 hL, nI_int (by omega)]; omega), fun c_ => ?_⟩
      conv => whnf
      refine hK _ _ _ _ _ _ (go hc 6 (fun K hK => ?_))
      conv => whnf
      refine Or.inl ⟨rfl, ixv (k := i) (rfl : nI i = nI i) (show i < L by omega) (by omega), ?_⟩
      conv => whnf
      simp only [sw0]
      refine ⟨fun _ => ?_, fun _ => ?_, fun _ => ?_, fun _ => ?_, fun _ => ?_, fun _ => ?_, fun _ => ?_, fun _ => ?_, fun _ => ?_, fun _ => ?_, fun _ => ?_, fun _ => ?_, fun _ => ?_, fun _ => ?_, fun _ => ?_, trivial⟩
      · exact hK _ _ _ _ _ _ (lw_none hc hP rz hr hex next)
      · exact hK _ _ _ _ _ _ (lw_say hc hL G c hP rz hr hex next)
      · exact hK _ _ _ _ _ _ (lw_hush hc G hP rz hr hex next)
      · exact hK _ _ _ _ _ _ (lw_set hc hL G c hP rz hr hex next)
      · exact hK _ _ _ _ _ _ (lw_cst hc hL G c hP rz hr hex next)
      · exact hK _ _ _ _ _ _ (lw_gen hc hL G c hP rz hr hex next)
      · exact hK _ _ _ _ _ _ (lw_cmb hc hL G c hP rz hr hex next)
      · exact hK _ _ _ _ _ _ (lw_map hc hL G c hP rz hr hex next)
      · exact hK _ _ _ _ _ _ (lw_max hc hL G c hP rz hr hex next)
      · exact hK _ _ _ _ _ _ (lw_grt hc hL G c hP rz hr hex next)
      · exact hK _ _ _ _ _ _ (lw_has hc hL G c hP rz hr hex next)
      · exact hK _ _ _ _ _ _ (lw_inc hc hL G c hP rz hr hex next)
      · exact hK _ _ _ _ _ _ (lw_dim hc hL G c hP rz hr hex next)
      · exact hK _ _ _ _ _ _ (lw_rows hc hL G c hP rz hr hex next)
      · exact hK _ _ _ _ _ _ (lw_row hc hL G c hP rz hr hex next)
    · refine go hc 6 (fun K hK => ?_)
      conv => whnf
      refine Or.inl ⟨rfl, ?_⟩
      conv => whnf
      refine ⟨fun c_ => ?_, fun c_ => absurd (by rw [Int32.lt_iff_toInt_lt, lm5 hL, nI_int (by omega)]; omega) c_⟩
      conv => whnf
      refine hK _ _ _ _ _ _ (go hc 2 (fun K hK => ?_))
      conv => whnf
      exact ⟨Or.inr rfl, rfl⟩
/-- THE LAW answers 1, if there is a link between class and reference that holds at the start and that every call keeps -/
theorem law_of (G : Good P) (h0 : P W0a a0r) : PureLaw := by
  intro L xs hL
  refine go rfl 13 (fun K hK => ?_)
  conv => whnf
  refine ⟨rfl, ?_⟩
  conv => whnf
  refine ⟨Nat.le_of_ble_eq_true rfl, rfl, ?_⟩
  conv => whnf
  refine k_X3 (d := 7) ?_
  conv => whnf
  refine ⟨rfl, ?_⟩
  conv => whnf
  refine ⟨Nat.le_of_ble_eq_true rfl, rfl, ?_⟩
  conv => whnf
  refine k_X4 (d := 10) ?_
  conv => whnf
  refine ⟨1, rfl, Nat.le_of_ble_eq_true rfl, rfl, ?_⟩
  conv => whnf
  refine ⟨Nat.le_of_ble_eq_true rfl, ?_⟩
  conv => whnf
  exact hK _ _ _ _ _ _ (lw_loop (P := P) rfl hL G 64 0 W0a a0r m0z (fun _ => 0) _ _ _ [] (by omega) (by omega) (Or.inl rfl) h0 rz0 (rep0 (toM m0z ++ [oA (fun _ => 0)])) (Nat.le_of_ble_eq_true rfl) (Nat.le_of_ble_eq_true rfl))
end LAW2
