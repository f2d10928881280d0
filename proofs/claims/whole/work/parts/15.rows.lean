/-! THE ROWS' METHODS: a row of the desk holds a list of triples of whole numbers -/
abbrev V3 : Type := Int × Int × Int
def cmp3 (v : V3) : Nat → Int
  | 0 => v.1
  | 1 => v.2.1
  | _ => v.2.2
/-- row j holds the list -/
def HL (w : DW) (j : Nat) (l : List V3) : Prop := (w.1 j).1 = l.length ∧ 3 * l.length ≤ capJ j ∧ ∀ i v, l[i]? = some v → (w.1 j).2 (3 * i) = Int64.ofInt v.1 ∧ (w.1 j).2 (3 * i + 1) = Int64.ofInt v.2.1 ∧ (w.1 j).2 (3 * i + 2) = Int64.ofInt v.2.2
/-- only the rows of J may differ -/
def Fr (w w' : DW) (J : List Nat) : Prop := w'.2 = w.2 ∧ ∀ k, k ∉ J → w'.1 k = w.1 k
theorem Fr.rf {w : DW} {J : List Nat} : Fr w w J := ⟨rfl, fun _ _ => rfl⟩
theorem Fr.tr {w w1 w2 : DW} {J : List Nat} (h1 : Fr w w1 J) (h2 : Fr w1 w2 J) : Fr w w2 J := ⟨h2.1.trans h1.1, fun k hk => (h2.2 k hk).trans (h1.2 k hk)⟩
theorem Fr.wide {w w1 : DW} {J J' : List Nat} (h1 : Fr w w1 J) (h : ∀ k ∈ J, k ∈ J') : Fr w w1 J' := ⟨h1.1, fun k hk => h1.2 k (fun q => hk (h k q))⟩
theorem Fr.one {w : DW} {j : Nat} {r : RS} : Fr w (setR w j r) [j] := ⟨rfl, fun k hk => va_up_ne _ _ (fun q => hk (by rw [q]; exact List.mem_singleton.mpr rfl))⟩
theorem HL.fr {w w' : DW} {J : List Nat} {j : Nat} {l : List V3} (h : HL w j l) (hf : Fr w w' J) (hj : j ∉ J) : HL w' j l := by
  unfold HL at h ⊢
  rw [hf.2 j hj]; exact h
theorem setR_self (w : DW) (j : Nat) (r : RS) : (setR w j r).1 j = r := va_up_self _ _ _
theorem setR_setR (w : DW) (j : Nat) (r r' : RS) : setR (setR w j r) j r' = setR w j r' := by
  unfold setR
  rw [bx_uu]
theorem HL.lt {w : DW} {j : Nat} {l : List V3} (h : HL w j l) {i : Nat} {v : V3} (hi : l[i]? = some v) : 3 * i + 2 < capJ j := by
  have h1 := (List.getElem?_eq_some_iff.mp hi).1
  have h2 := h.2.1
  omega
def up3 (f : Nat → Int64) (p : Nat) (x y z : Int64) : Nat → Int64 := vp_updL (vp_updL (vp_updL f p x) (p + 1) y) (p + 2) z
theorem up3_0 (f : Nat → Int64) (p : Nat) (x y z : Int64) : up3 f p x y z p = x := by
  unfold up3
  rw [pk_uLn (by omega), pk_uLn (by omega), pk_uLs]
theorem up3_1 (f : Nat → Int64) (p : Nat) (x y z : Int64) : up3 f p x y z (p + 1) = y := by
  unfold up3
  rw [pk_uLn (by omega), pk_uLs]
theorem up3_2 (f : Nat → Int64) (p : Nat) (x y z : Int64) : up3 f p x y z (p + 2) = z := by
  unfold up3
  rw [pk_uLs]
theorem up3_ne (f : Nat → Int64) {p k : Nat} (x y z : Int64) (h0 : k ≠ p) (h1 : k ≠ p + 1) (h2 : k ≠ p + 2) : up3 f p x y z k = f k := by
  unfold up3
  rw [pk_uLn h2, pk_uLn h1, pk_uLn h0]
section RUN
variable {sc : Scr} {d : Nat} {call : Callee} {mi : MI} {Q : Out → PH → Prop}
theorem go (hc : call = wpC sc d) (n : Nat) {pc : Nat} {lv : LV} {st : List Value} {h : PH} {rc rs : Nat}
    (k : ∀ K : Kt, (∀ pc lv st h rc rs, Runs d call sc mi Q pc lv st h rc rs → K pc lv st h rc rs) → stpN d call sc mi Q K n pc lv st h rc rs) : Runs d call sc mi Q pc lv st h rc rs := Runs.go (by rw [hc]; exact wpC_mono sc d) n k
/-- a method's start -/
theorem enter {k : Nat} {as : List Value} {h : PH} (hk : nth mtL k = some mi) (hw : Nat.ble (wt as) (mLo mi) = true)
    (b : ∀ call : Callee, call = wpC sc d → la 0 as fun lv => Runs d call sc mi (qth (mTh mi) Q) 0 lv [] h (mMc mi) (mMs mi)) : wpC sc (d + 1) k as h Q := by
  show oK (nth mtL k) _
  rw [hk]
  exact ⟨Nat.le_of_ble_eq_true hw, b _ rfl⟩
theorem callee (hc : call = wpC sc d) {k : Nat} {as : List Value} {h : PH} {R : Out → PH → Prop} (hw : wpC sc d k as h R) : call k as h R := by rw [hc]; exact hw
end RUN
section ROWS
variable {sc : Scr} {d : Nat} {w : DW} {X : PH} {j : Nat} {Q : Out → PH → Prop} {l : List V3}
theorem m_count (hj : j < 21) (hl : HL w j l) (hQ : Q (.inl (some (.int (nI l.length)))) (toD w ++ X)) : wpC sc (d + 1) 19 [.ref (rid j)] (toD w ++ X) Q := by
  refine enter rfl rfl (fun call hc => go hc 3 (fun K hK => ?_))
  conv => whnf
  refine ⟨_, _, x_R w X j hj, rfl, ?_⟩
  conv => whnf
  rw [hl.1]
  exact hQ
theorem m_clear (hj : j < 21) (hQ : ∀ w', Fr w w' [j] → HL w' j [] → Q (.inl none) (toD w' ++ X)) : wpC sc (d + 1) 20 [.ref (rid j)] (toD w ++ X) Q := by
  refine enter rfl rfl (fun call hc => go hc 4 (fun K hK => ?_))
  conv => whnf
  refine ⟨_, x_R w X j hj, Nat.le_of_ble_eq_true rfl, ?_⟩
  conv => whnf
  have h := y_R w X 0 j hj
  refine h ▸ hQ _ Fr.one ⟨by rw [setR_self]; rfl, Nat.zero_le _, fun i v hi => by simp at hi⟩
theorem m_at {i k : Nat} (hj : j < 21) (hi : 3 * i + k < capJ j) (hQ : Q (.inl (some (.long ((w.1 j).2 (3 * i + k))))) (toD w ++ X)) : wpC sc (d + 1) 21 [.ref (rid j), .int (nI i), .int (nI k)] (toD w ++ X) Q := by
  have hcp := capJ_lt j
  refine enter rfl rfl (fun call hc => go hc 20 (fun K hK => ?_))
  conv => whnf
  rw [i3]
  refine ⟨fun c => absurd c (nI_pos (by omega)), fun _ => ?_⟩
  conv => whnf
  refine ⟨_, _, x_R w X j hj, rfl, ?_⟩
  conv => whnf
  refine Or.inr ⟨_, _, _, x_A w X j hj, by decide, ?_⟩
  conv => whnf
  refine ⟨fun c => absurd c (nI_ge hi (by omega)), fun _ => ?_⟩
  conv => whnf
  refine ⟨_, _, x_R w X j hj, rfl, ?_⟩
  conv => whnf
  refine ⟨_, _, x_A w X j hj, vp_in_nI hi (by omega), ?_⟩
  conv => whnf
  rw [nI_clamp (by omega)]
  exact hQ
theorem m_at0 {i : Nat} {v : V3} (hj : j < 21) (hl : HL w j l) (hi : l[i]? = some v) (hQ : Q (.inl (some (.long (Int64.ofInt v.1)))) (toD w ++ X)) : wpC sc (d + 1) 21 [.ref (rid j), .int (nI i), .int 0] (toD w ++ X) Q :=
  m_at (k := 0) hj (by have := hl.lt hi; omega) (by have := (hl.2.2 i v hi).1; rw [show 3 * i + 0 = 3 * i from rfl, this]; exact hQ)
theorem m_at1 {i : Nat} {v : V3} (hj : j < 21) (hl : HL w j l) (hi : l[i]? = some v) (hQ : Q (.inl (some (.long (Int64.ofInt v.2.1)))) (toD w ++ X)) : wpC sc (d + 1) 21 [.ref (rid j), .int (nI i), .int 1] (toD w ++ X) Q :=
  m_at (k := 1) hj (by have := hl.lt hi; omega) (by rw [(hl.2.2 i v hi).2.1]; exact hQ)
theorem m_at2 {i : Nat} {v : V3} (hj : j < 21) (hl : HL w j l) (hi : l[i]? = some v) (hQ : Q (.inl (some (.long (Int64.ofInt v.2.2)))) (toD w ++ X)) : wpC sc (d + 1) 21 [.ref (rid j), .int (nI i), .int 2] (toD w ++ X) Q :=
  m_at (k := 2) hj (by have := hl.lt hi; omega) (by rw [(hl.2.2 i v hi).2.2]; exact hQ)
theorem m_atK {i k : Nat} {v : V3} (hj : j < 21) (hl : HL w j l) (hi : l[i]? = some v) (hk : k < 3) (hQ : Q (.inl (some (.long (Int64.ofInt (cmp3 v k))))) (toD w ++ X)) : wpC sc (d + 1) 21 [.ref (rid j), .int (nI i), .int (nI k)] (toD w ++ X) Q := by
  match k, hk, hQ with
  | 0, _, hQ => exact m_at0 hj hl hi hQ
  | 1, _, hQ => exact m_at1 hj hl hi hQ
  | 2, _, hQ => exact m_at2 hj hl hi hQ
theorem i30 (i : Nat) : (3 : Int32) * nI i = nI (3 * i) := by rw [show (3 : Int32) = nI 3 from rfl, pk_mul]
theorem m_write0 {i : Nat} {x y z : Int64} (hj : j < 21) (hi : 3 * i + 2 < capJ j) (hQ : Q (.inl none) (toD (setR w j ((w.1 j).1, up3 (w.1 j).2 (3 * i) x y z)) ++ X)) : wpC sc (d + 1) 22 [.ref (rid j), .int (nI i), .long x, .long y, .long z] (toD w ++ X) Q := by
  have hcp := capJ_lt j
  refine enter rfl rfl (fun call hc => go hc 33 (fun K hK => ?_))
  conv => whnf
  rw [i30]
  refine ⟨fun c => absurd c (nI_pos (by omega)), fun _ => ?_⟩
  conv => whnf
  refine ⟨_, _, x_R w X j hj, rfl, ?_⟩
  conv => whnf
  refine Or.inr ⟨_, _, _, x_A w X j hj, by decide, ?_⟩
  conv => whnf
  rw [show nI (3 * i) + 2 = nI (3 * i + 2) from nI_add _ 2]
  refine ⟨fun c => absurd c (nI_ge hi (by omega)), fun _ => ?_⟩
  conv => whnf
  refine ⟨_, _, x_R w X j hj, rfl, ?_⟩
  conv => whnf
  refine ⟨_, _, x_A w X j hj, vp_in_nI (by omega) (by omega), ?_⟩
  rw [nI_clamp (show 3 * i < 2 ^ 31 by omega), y_A w X _ j hj]
  conv => whnf
  refine ⟨_, _, x_R _ X j hj, rfl, ?_⟩
  conv => whnf
  rw [show nI (3 * i) + 1 = nI (3 * i + 1) from nI_add _ 1]
  refine ⟨_, _, x_A _ X j hj, vp_in_nI (by omega) (by omega), ?_⟩
  rw [nI_clamp (show 3 * i + 1 < 2 ^ 31 by omega), y_A _ X _ j hj]
  conv => whnf
  refine ⟨_, _, x_R _ X j hj, rfl, ?_⟩
  conv => whnf
  rw [show nI (3 * i) + 2 = nI (3 * i + 2) from nI_add _ 2]
  refine ⟨_, _, x_A _ X j hj, vp_in_nI (by omega) (by omega), ?_⟩
  rw [nI_clamp (show 3 * i + 2 < 2 ^ 31 by omega), y_A _ X _ j hj]
  conv => whnf
  simp only [setR_self, setR_setR]
  exact hQ
/-- the list with one triple changed -/
theorem HL.set {i : Nat} {v : V3} (hl : HL w j l) (hi : i < l.length) : HL (setR w j ((w.1 j).1, up3 (w.1 j).2 (3 * i) (Int64.ofInt v.1) (Int64.ofInt v.2.1) (Int64.ofInt v.2.2))) j (l.set i v) := by
  unfold HL
  rw [setR_self]
  refine ⟨by rw [List.length_set]; exact hl.1, by rw [List.length_set]; exact hl.2.1, fun q u hq => ?_⟩
  rw [List.getElem?_set] at hq
  by_cases hiq : i = q
  · subst hiq
    rw [if_pos rfl, if_pos hi] at hq
    cases hq
    exact ⟨up3_0 _ _ _ _ _, up3_1 _ _ _ _ _, up3_2 _ _ _ _ _⟩
  · rw [if_neg hiq] at hq
    obtain ⟨h1, h2, h3⟩ := hl.2.2 q u hq
    show up3 _ _ _ _ _ _ = _ ∧ up3 _ _ _ _ _ _ = _ ∧ up3 _ _ _ _ _ _ = _
    rw [up3_ne _ _ _ _ (by omega) (by omega) (by omega), up3_ne _ _ _ _ (by omega) (by omega) (by omega), up3_ne _ _ _ _ (by omega) (by omega) (by omega)]
    exact ⟨h1, h2, h3⟩
theorem m_write {i : Nat} (v : V3) {x y z : Int64} (hj : j < 21) (hl : HL w j l) (hi : i < l.length) (hx : x = Int64.ofInt v.1) (hy : y = Int64.ofInt v.2.1) (hz : z = Int64.ofInt v.2.2) (hQ : ∀ w', Fr w w' [j] → HL w' j (l.set i v) → Q (.inl none) (toD w' ++ X)) : wpC sc (d + 1) 22 [.ref (rid j), .int (nI i), .long x, .long y, .long z] (toD w ++ X) Q := by
  subst hx; subst hy; subst hz
  exact m_write0 hj (by have := hl.2.1; omega) (hQ _ Fr.one (hl.set hi))
/-- how many triples a row can hold -/
def capL (j : Nat) : Nat := capJ j / 3
theorem capL_mul (j : Nat) : 3 * capL j = capJ j := by unfold capL capJ; repeat (first | rfl | split)
theorem m_add (v : V3) {x y z : Int64} (hj : j < 21) (hl : HL w j l) (hcap : l.length < capL j) (hx : x = Int64.ofInt v.1) (hy : y = Int64.ofInt v.2.1) (hz : z = Int64.ofInt v.2.2) (hQ : ∀ w', Fr w w' [j] → HL w' j (l ++ [v]) → Q (.inl none) (toD w' ++ X)) : wpC sc (d + 2) 23 [.ref (rid j), .long x, .long y, .long z] (toD w ++ X) Q := by
  have hcp := capJ_lt j
  have hcm := capL_mul j
  subst hx; subst hy; subst hz
  refine enter rfl rfl (fun call hc => go hc 30 (fun K hK => ?_))
  conv => whnf
  refine ⟨_, _, x_R w X j hj, rfl, ?_⟩
  conv => whnf
  refine ⟨_, _, x_R w X j hj, rfl, ?_⟩
  conv => whnf
  refine Or.inr ⟨_, _, _, x_A w X j hj, by decide, ?_⟩
  conv => whnf
  rw [hl.1, i30, show nI (3 * l.length) + 2 = nI (3 * l.length + 2) from nI_add _ 2]
  refine ⟨fun c => absurd c (nI_ge (by omega) (by omega)), fun _ => ?_⟩
  conv => whnf
  refine ⟨_, _, x_R w X j hj, rfl, ?_⟩
  conv => whnf
  refine ⟨_, x_R w X j hj, Nat.le_of_ble_eq_true rfl, ?_⟩
  conv => whnf
  rw [hl.1]
  refine callee hc (m_write0 hj (by omega) ?_)
  conv => whnf
  refine ⟨_, _, x_R _ X j hj, rfl, ?_⟩
  conv => whnf
  refine ⟨_, x_R _ X j hj, Nat.le_of_ble_eq_true rfl, ?_⟩
  conv => whnf
  simp only [setR_self]
  rw [hl.1, nI_1]
  have h := y_R (setR w j (l.length, up3 (w.1 j).2 (3 * l.length) (Int64.ofInt v.1) (Int64.ofInt v.2.1) (Int64.ofInt v.2.2))) X (l.length + 1) j hj
  simp only [setR_self, setR_setR] at h
  refine h ▸ hQ _ Fr.one ?_
  unfold HL
  rw [setR_self]
  refine ⟨by simp, by simp; omega, fun i u hi => ?_⟩
  by_cases hlt : i < l.length
  · rw [List.getElem?_append_left hlt] at hi
    obtain ⟨h1, h2, h3⟩ := hl.2.2 i u hi
    show up3 _ _ _ _ _ _ = _ ∧ up3 _ _ _ _ _ _ = _ ∧ up3 _ _ _ _ _ _ = _
    rw [up3_ne _ _ _ _ (by omega) (by omega) (by omega), up3_ne _ _ _ _ (by omega) (by omega) (by omega), up3_ne _ _ _ _ (by omega) (by omega) (by omega)]
    exact ⟨h1, h2, h3⟩
  · have hie : i = l.length := by
      have := (List.getElem?_eq_some_iff.mp hi).1
      simp at this
      omega
    subst hie
    rw [List.getElem?_append_right (Nat.le_refl _)] at hi
    simp at hi
    subst hi
    exact ⟨up3_0 _ _ _ _ _, up3_1 _ _ _ _ _, up3_2 _ _ _ _ _⟩
end ROWS
