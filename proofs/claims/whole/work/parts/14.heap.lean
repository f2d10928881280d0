/-! THE DESK's HEAP in the pure machine: numbers 0 .. 59; rows 0 .. 19 are lines and edges of the cones, 20 the scratch -/
abbrev RS : Type := Nat × (Nat → Int64)
/-- rows; how many numbers, the numbers, the slots' shapes, the draft's, the latest answer, numerator, denominator -/
abbrev DW : Type := (Nat → RS) × Nat × (Nat → Int32) × (Nat → Nat) × Nat × Int32 × Int32 × Int32
def rid (j : Nat) : Nat := if j = 20 then 1 else 7 + 11 * (j / 4) + 5 * (j / 2 % 2) + 2 * (j % 2)
def cid (c : Nat) : Nat := 6 + 11 * (c / 2) + 5 * (c % 2)
def sid (t : Nat) : Nat := 5 + 11 * t
def capJ (j : Nat) : Nat := if j = 20 then 144 else if j % 2 = 0 then 9 else 144
def eR (w : DW) (j : Nat) : va_E := .inr (1, [.ref (rid j + 1), .int (nI (w.1 j).1)])
def eA (w : DW) (j : Nat) : va_E := .inl (1, capJ j, .inr (.inl (w.1 j).2))
def eC (c : Nat) : va_E := .inr (0, [.int (nI (c % 2)), .ref (rid (2 * c)), .ref (rid (2 * c + 1)), .ref 1])
def eS (t : Nat) : va_E := .inr (2, [.ref (cid (2 * t)), .ref (cid (2 * t + 1))])
def blk (w : DW) (t : Nat) : List va_E := [eS t, eC (2 * t), eR w (4 * t), eA w (4 * t), eR w (4 * t + 1), eA w (4 * t + 1), eC (2 * t + 1), eR w (4 * t + 2), eA w (4 * t + 2), eR w (4 * t + 3), eA w (4 * t + 3)]
def eD (w : DW) : va_E := .inr (3, [.ref 3, .int (nI w.2.1), .ref 4, .ref (sid w.2.2.2.2.1), .int w.2.2.2.2.2.1, .int w.2.2.2.2.2.2.1, .int w.2.2.2.2.2.2.2])
def slf (s : Nat → Nat) : Nat → Option Nat := fun i => if i < 4 then some (sid (s i)) else none
def toD (w : DW) : PH := [eD w, eR w 20, eA w 20, .inl (0, 6, .inl w.2.2.1), .inl (3, 4, .inr (.inr (.inr (.inr (slf w.2.2.2.1)))))] ++ (blk w 0 ++ (blk w 1 ++ (blk w 2 ++ (blk w 3 ++ blk w 4))))
/-- row j becomes r -/
def setR (w : DW) (j : Nat) (r : RS) : DW := (va_up w.1 j r, w.2)
theorem by21 {P : Nat → Prop} (h : ∀ t, t < 5 → P (4 * t) ∧ P (4 * t + 1) ∧ P (4 * t + 2) ∧ P (4 * t + 3)) (h0 : P 20) : ∀ j, j < 21 → P j := by
  intro j hj
  by_cases h20 : j = 20
  · subst h20; exact h0
  · obtain ⟨a, b, c, d⟩ := h (j / 4) (by omega)
    have h4 : j % 4 = 0 ∨ j % 4 = 1 ∨ j % 4 = 2 ∨ j % 4 = 3 := by omega
    rcases h4 with h4 | h4 | h4 | h4
    · have : j = 4 * (j / 4) := by omega
      rw [this]; exact a
    · have : j = 4 * (j / 4) + 1 := by omega
      rw [this]; exact b
    · have : j = 4 * (j / 4) + 2 := by omega
      rw [this]; exact c
    · have : j = 4 * (j / 4) + 3 := by omega
      rw [this]; exact d
theorem by5 {P : Nat → Prop} (h0 : P 0) (h1 : P 1) (h2 : P 2) (h3 : P 3) (h4 : P 4) : ∀ t, t < 5 → P t := by
  intro t ht
  match t, ht with
  | 0, _ => exact h0
  | 1, _ => exact h1
  | 2, _ => exact h2
  | 3, _ => exact h3
  | 4, _ => exact h4
theorem x_R (w : DW) (X : PH) : ∀ j, j < 21 → (toD w ++ X)[rid j]? = some (.inr (1, [.ref (rid j + 1), .int (nI (w.1 j).1)])) :=
  by21 (by5 ⟨rfl, rfl, rfl, rfl⟩ ⟨rfl, rfl, rfl, rfl⟩ ⟨rfl, rfl, rfl, rfl⟩ ⟨rfl, rfl, rfl, rfl⟩ ⟨rfl, rfl, rfl, rfl⟩) rfl
theorem x_A (w : DW) (X : PH) : ∀ j, j < 21 → (toD w ++ X)[rid j + 1]? = some (.inl (1, capJ j, .inr (.inl (w.1 j).2))) :=
  by21 (by5 ⟨rfl, rfl, rfl, rfl⟩ ⟨rfl, rfl, rfl, rfl⟩ ⟨rfl, rfl, rfl, rfl⟩ ⟨rfl, rfl, rfl, rfl⟩ ⟨rfl, rfl, rfl, rfl⟩) rfl
theorem x_C (w : DW) (X : PH) : ∀ c, c < 10 → (toD w ++ X)[cid c]? = some (.inr (0, [.int (nI (c % 2)), .ref (rid (2 * c)), .ref (rid (2 * c + 1)), .ref 1])) := by
  intro c hc
  match c, hc with
  | 0, _ => rfl
  | 1, _ => rfl
  | 2, _ => rfl
  | 3, _ => rfl
  | 4, _ => rfl
  | 5, _ => rfl
  | 6, _ => rfl
  | 7, _ => rfl
  | 8, _ => rfl
  | 9, _ => rfl
theorem x_S (w : DW) (X : PH) : ∀ t, t < 5 → (toD w ++ X)[sid t]? = some (.inr (2, [.ref (cid (2 * t)), .ref (cid (2 * t + 1))])) := by5 rfl rfl rfl rfl rfl
theorem y_R (w : DW) (X : PH) (n : Nat) : ∀ j, j < 21 → (toD w ++ X).set (rid j) (.inr (1, [.ref (rid j + 1), .int (nI n)])) = toD (setR w j (n, (w.1 j).2)) ++ X :=
  by21 (by5 ⟨rfl, rfl, rfl, rfl⟩ ⟨rfl, rfl, rfl, rfl⟩ ⟨rfl, rfl, rfl, rfl⟩ ⟨rfl, rfl, rfl, rfl⟩ ⟨rfl, rfl, rfl, rfl⟩) rfl
theorem y_A (w : DW) (X : PH) (f : Nat → Int64) : ∀ j, j < 21 → (toD w ++ X).set (rid j + 1) (.inl (1, capJ j, .inr (.inl f))) = toD (setR w j ((w.1 j).1, f)) ++ X :=
  by21 (by5 ⟨rfl, rfl, rfl, rfl⟩ ⟨rfl, rfl, rfl, rfl⟩ ⟨rfl, rfl, rfl, rfl⟩ ⟨rfl, rfl, rfl, rfl⟩ ⟨rfl, rfl, rfl, rfl⟩) rfl
theorem i3 (i k : Nat) : (3 : Int32) * nI i + nI k = nI (3 * i + k) := by
  rw [show (3 : Int32) = nI 3 from rfl, pk_mul, nI_add]
theorem capJ_lt (j : Nat) : capJ j < 200 := by unfold capJ; repeat (first | decide | split)
