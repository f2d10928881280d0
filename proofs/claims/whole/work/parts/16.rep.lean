/-! WHAT THE DESK's HEAP HOLDS: each row a list of triples; the rest as it stands -/
abbrev AW : Type := (Nat → List V3) × Nat × (Nat → Int32) × (Nat → Nat) × Nat × Int32 × Int32 × Int32
def Rep (W : AW) (X h : PH) : Prop := ∃ w : DW, h = toD w ++ X ∧ w.2 = W.2 ∧ ∀ j, j < 21 → HL w j (W.1 j)
/-- row j becomes l -/
def sl (W : AW) (j : Nat) (l : List V3) : AW := (va_up W.1 j l, W.2)
theorem sl_self (W : AW) (j : Nat) (l : List V3) : (sl W j l).1 j = l := va_up_self _ _ _
theorem sl_ne (W : AW) {j k : Nat} (l : List V3) (h : k ≠ j) : (sl W j l).1 k = W.1 k := va_up_ne _ _ h
theorem sl_sl (W : AW) (j : Nat) (l l' : List V3) : sl (sl W j l) j l' = sl W j l' := by
  unfold sl
  rw [bx_uu]
theorem sl_2 (W : AW) (j : Nat) (l : List V3) : (sl W j l).2 = W.2 := rfl
theorem sl_id (W : AW) (j : Nat) : sl W j (W.1 j) = W := by
  unfold sl
  refine Prod.ext (funext fun k => ?_) rfl
  by_cases h : k = j
  · rw [h]; exact va_up_self _ _ _
  · exact va_up_ne _ _ h
def gt (l : List V3) (i : Nat) : V3 := l.getD i (0, 0, 0)
theorem gt_some {l : List V3} {i : Nat} (h : i < l.length) : l[i]? = some (gt l i) := by
  unfold gt
  rw [List.getD_eq_getElem?_getD, List.getElem?_eq_getElem h]; rfl
theorem gt_of {l : List V3} {i : Nat} {v : V3} (h : l[i]? = some v) : gt l i = v := by
  unfold gt
  rw [List.getD_eq_getElem?_getD, h]; rfl
theorem gt_mem {l : List V3} {i : Nat} (h : i < l.length) : gt l i ∈ l := List.mem_of_getElem? (gt_some h)
theorem gt_ext {l m : List V3} (hl : l.length = m.length) (h : ∀ i, i < l.length → gt l i = gt m i) : l = m := by
  refine List.ext_getElem? fun i => ?_
  by_cases hi : i < l.length
  · rw [gt_some hi, gt_some (by omega), h i hi]
  · rw [List.getElem?_eq_none (by omega), List.getElem?_eq_none (by omega)]
theorem gt_set {l : List V3} {i k : Nat} {v : V3} (hi : i < l.length) : gt (l.set i v) k = if i = k then v else gt l k := by
  unfold gt
  rw [List.getD_eq_getElem?_getD, List.getElem?_set, List.getD_eq_getElem?_getD]
  by_cases h : i = k
  · subst h
    rw [if_pos rfl, if_pos hi, if_pos rfl]; rfl
  · rw [if_neg h, if_neg h]
theorem HL.trunc {w : DW} {j n : Nat} {l : List V3} (h : HL w j l) (hn : n ≤ l.length) : HL (setR w j (n, (w.1 j).2)) j (l.take n) := by
  unfold HL
  rw [setR_self]
  have h2 := h.2.1
  refine ⟨by rw [List.length_take]; omega, by rw [List.length_take]; omega, fun i v hi => ?_⟩
  rw [List.getElem?_take] at hi
  split at hi
  · exact h.2.2 i v hi
  · cases hi
theorem Rep.fr {W : AW} {X : PH} {w w' : DW} {j : Nat} {l : List V3} (h2 : w.2 = W.2) (hl : ∀ j, j < 21 → HL w j (W.1 j)) (hf : Fr w w' [j]) (h : HL w' j l) : Rep (sl W j l) X (toD w' ++ X) := by
  refine ⟨w', rfl, hf.1.trans h2, fun k hk => ?_⟩
  by_cases hkj : k = j
  · subst hkj; rw [sl_self]; exact h
  · rw [sl_ne _ _ hkj]; exact (hl k hk).fr hf (by simpa using hkj)
section REP
variable {sc : Scr} {d : Nat} {W : AW} {X h : PH} {j : Nat} {Q : Out → PH → Prop}
theorem Rep.R (hr : Rep W X h) (j : Nat) (hj : j < 21) : h[rid j]? = some (.inr (1, [.ref (rid j + 1), .int (nI (W.1 j).length)])) := by
  obtain ⟨w, rfl, _, hl⟩ := hr
  rw [x_R w X j hj, (hl j hj).1]
theorem Rep.C (hr : Rep W X h) (c : Nat) (hc : c < 10) : h[cid c]? = some (.inr (0, [.int (nI (c % 2)), .ref (rid (2 * c)), .ref (rid (2 * c + 1)), .ref (rid 20)])) := by
  obtain ⟨w, rfl, _, _⟩ := hr
  exact x_C w X c hc
theorem Rep.S (hr : Rep W X h) (t : Nat) (ht : t < 5) : h[sid t]? = some (.inr (2, [.ref (cid (2 * t)), .ref (cid (2 * t + 1))])) := by
  obtain ⟨w, rfl, _, _⟩ := hr
  exact x_S w X t ht
theorem Rep.D (hr : Rep W X h) : h[0]? = some (.inr (3, [.ref 3, .int (nI W.2.1), .ref 4, .ref (sid W.2.2.2.2.1), .int W.2.2.2.2.2.1, .int W.2.2.2.2.2.2.1, .int W.2.2.2.2.2.2.2])) := by
  obtain ⟨w, rfl, h2, _⟩ := hr
  rw [← h2]; rfl
theorem Rep.N (hr : Rep W X h) : h[3]? = some (.inl (0, 6, .inl W.2.2.1)) := by
  obtain ⟨w, rfl, h2, _⟩ := hr
  rw [← h2]; rfl
theorem Rep.T (hr : Rep W X h) : h[4]? = some (.inl (3, 4, .inr (.inr (.inr (.inr (slf W.2.2.2.1)))))) := by
  obtain ⟨w, rfl, h2, _⟩ := hr
  rw [← h2]; rfl
/-- how many triples a row holds at most -/
theorem Rep.cap (hr : Rep W X h) (j : Nat) (hj : j < 21) : (W.1 j).length ≤ capL j := by
  obtain ⟨w, rfl, _, hl⟩ := hr
  have := (hl j hj).2.1
  have := capL_mul j
  omega
theorem capL_le (j : Nat) : capL j ≤ 48 := by unfold capL capJ; repeat (first | decide | split)
theorem Rep.c48 (hr : Rep W X h) {j : Nat} (hj : j < 21) : (W.1 j).length ≤ 48 := Nat.le_trans (hr.cap j hj) (capL_le j)
/-- the row's count alone is changed -/
theorem Rep.trunc (hr : Rep W X h) (j : Nat) (hj : j < 21) {n : Nat} (hn : n ≤ (W.1 j).length) : Rep (sl W j ((W.1 j).take n)) X (h.set (rid j) (.inr (1, [.ref (rid j + 1), .int (nI n)]))) := by
  obtain ⟨w, rfl, h2, hl⟩ := hr
  rw [y_R w X n j hj]
  exact Rep.fr h2 hl Fr.one ((hl j hj).trunc hn)
theorem r_count (hr : Rep W X h) (hj : j < 21) (hQ : Q (.inl (some (.int (nI (W.1 j).length)))) h) : wpC sc (d + 1) 19 [.ref (rid j)] h Q := by
  obtain ⟨w, rfl, h2, hl⟩ := hr
  exact m_count hj (hl j hj) hQ
theorem r_clear (hr : Rep W X h) (hj : j < 21) (hQ : ∀ h, Rep (sl W j []) X h → Q (.inl none) h) : wpC sc (d + 1) 20 [.ref (rid j)] h Q := by
  obtain ⟨w, rfl, h2, hl⟩ := hr
  exact m_clear hj fun w' hf hl' => hQ _ (Rep.fr h2 hl hf hl')
theorem r_at0 (hr : Rep W X h) {i : Nat} (hj : j < 21) (hi : i < (W.1 j).length) (hQ : Q (.inl (some (.long (Int64.ofInt (gt (W.1 j) i).1)))) h) : wpC sc (d + 1) 21 [.ref (rid j), .int (nI i), .int 0] h Q := by
  obtain ⟨w, rfl, h2, hl⟩ := hr
  exact m_at0 hj (hl j hj) (gt_some hi) hQ
theorem r_at1 (hr : Rep W X h) {i : Nat} (hj : j < 21) (hi : i < (W.1 j).length) (hQ : Q (.inl (some (.long (Int64.ofInt (gt (W.1 j) i).2.1)))) h) : wpC sc (d + 1) 21 [.ref (rid j), .int (nI i), .int 1] h Q := by
  obtain ⟨w, rfl, h2, hl⟩ := hr
  exact m_at1 hj (hl j hj) (gt_some hi) hQ
theorem r_at2 (hr : Rep W X h) {i : Nat} (hj : j < 21) (hi : i < (W.1 j).length) (hQ : Q (.inl (some (.long (Int64.ofInt (gt (W.1 j) i).2.2)))) h) : wpC sc (d + 1) 21 [.ref (rid j), .int (nI i), .int 2] h Q := by
  obtain ⟨w, rfl, h2, hl⟩ := hr
  exact m_at2 hj (hl j hj) (gt_some hi) hQ
theorem r_atK (hr : Rep W X h) {i k : Nat} (hj : j < 21) (hi : i < (W.1 j).length) (hk : k < 3) (hQ : Q (.inl (some (.long (Int64.ofInt (cmp3 (gt (W.1 j) i) k))))) h) : wpC sc (d + 1) 21 [.ref (rid j), .int (nI i), .int (nI k)] h Q := by
  obtain ⟨w, rfl, h2, hl⟩ := hr
  exact m_atK hj (hl j hj) (gt_some hi) hk hQ
theorem r_write (hr : Rep W X h) {i : Nat} (v : V3) {x y z : Int64} (hj : j < 21) (hi : i < (W.1 j).length) (hx : x = Int64.ofInt v.1) (hy : y = Int64.ofInt v.2.1) (hz : z = Int64.ofInt v.2.2) (hQ : ∀ h, Rep (sl W j ((W.1 j).set i v)) X h → Q (.inl none) h) : wpC sc (d + 1) 22 [.ref (rid j), .int (nI i), .long x, .long y, .long z] h Q := by
  obtain ⟨w, rfl, h2, hl⟩ := hr
  exact m_write v hj (hl j hj) hi hx hy hz fun w' hf hl' => hQ _ (Rep.fr h2 hl hf hl')
theorem r_add (hr : Rep W X h) (v : V3) {x y z : Int64} (hj : j < 21) (hcap : (W.1 j).length < capL j) (hx : x = Int64.ofInt v.1) (hy : y = Int64.ofInt v.2.1) (hz : z = Int64.ofInt v.2.2) (hQ : ∀ h, Rep (sl W j (W.1 j ++ [v])) X h → Q (.inl none) h) : wpC sc (d + 2) 23 [.ref (rid j), .long x, .long y, .long z] h Q := by
  obtain ⟨w, rfl, h2, hl⟩ := hr
  exact m_add v hj (hl j hj) hcap hx hy hz fun w' hf hl' => hQ _ (Rep.fr h2 hl hf hl')
end REP
/-! forgetting locals at a loop's head -/
def pick (is : List Nat) (lv : LV) : LV := lv.filter (fun q => is.contains q.1)
def srtB : LV → Bool
  | [] => true
  | [_] => true
  | a :: b :: l => Nat.blt a.1 b.1 && srtB (b :: l)
theorem srtB_srt : ∀ {lv : LV}, srtB lv = true → srt lv
  | [], _ => List.Pairwise.nil
  | [_], _ => List.pairwise_singleton _ _
  | a :: b :: l, h => by
    unfold srtB at h
    rw [Bool.and_eq_true] at h
    have ih := srtB_srt h.2
    unfold srt at ih ⊢
    have hab : a.1 < b.1 := Nat.le_of_ble_eq_true h.1
    refine List.pairwise_cons.mpr ⟨fun q hq => ?_, ih⟩
    rcases List.mem_cons.mp hq with h1 | h1
    · rw [h1]; exact hab
    · exact Nat.lt_trans hab ((List.pairwise_cons.mp ih).1 q h1)
theorem Runs.less {sc : Scr} {d : Nat} {call : Callee} {mi : MI} {Q : Out → PH → Prop} (hc : call = wpC sc d) (is : List Nat) {lv lv' : LV} {pc : Nat} {st : List Value} {h : PH} {rc rs : Nat} (h1 : mAl mi = false) (h2 : mHh mi = []) (hs : srtB lv' = true) (hp : pick is lv' = lv) (k : Runs d call sc mi Q pc lv st h rc rs) : Runs d call sc mi Q pc lv' st h rc rs := by
  have hs' := srtB_srt hs
  refine Runs.more (by rw [hc]; exact wpC_mono sc d) h2 (lv := lv) k ⟨?_, hs', ?_, fun q _ => Or.inr (Or.inl ⟨h1, h2⟩)⟩
  · rw [← hp]; exact List.Pairwise.filter _ hs'
  · intro q hq
    rw [← hp] at hq
    exact (List.mem_filter.mp hq).1
/-! numbers of 64 bits as whole numbers -/
def inL (a : Int) : Prop := -9223372036854775808 < a ∧ a < 9223372036854775808
theorem oI_toInt {a : Int} (h : inL a) : (Int64.ofInt a).toInt = a := Int64.toInt_ofInt_of_le (by have := h.1; omega) (by have := h.2; omega)
theorem oI_le {a b : Int} (ha : inL a) (hb : inL b) : Int64.ofInt a ≤ Int64.ofInt b ↔ a ≤ b := by rw [Int64.le_iff_toInt_le, oI_toInt ha, oI_toInt hb]
theorem oI_lt {a b : Int} (ha : inL a) (hb : inL b) : Int64.ofInt a < Int64.ofInt b ↔ a < b := by rw [Int64.lt_iff_toInt_lt, oI_toInt ha, oI_toInt hb]
theorem oI_eq {a b : Int} (ha : inL a) (hb : inL b) : Int64.ofInt a = Int64.ofInt b ↔ a = b := ⟨fun h => by rw [← oI_toInt ha, ← oI_toInt hb, h], fun h => by rw [h]⟩
theorem inL_0 : inL 0 := ⟨by omega, by omega⟩
theorem oI_0 : (0 : Int64) = Int64.ofInt 0 := rfl
theorem oI_nat (n : Nat) : Int64.ofInt (n : Int) = lN n := Int64.ofInt_eq_ofNat
theorem kGe {a b : Int} (ha : inL a) (hb : inL b) : 0 ≤ lg_cmp (Int64.ofInt a) (Int64.ofInt b) ↔ b ≤ a := by rw [lg_cmp_ge, oI_le hb ha]
theorem kLe {a b : Int} (ha : inL a) (hb : inL b) : lg_cmp (Int64.ofInt a) (Int64.ofInt b) ≤ 0 ↔ a ≤ b := by rw [lg_cmp_le, oI_le ha hb]
theorem kGt {a b : Int} (ha : inL a) (hb : inL b) : 0 < lg_cmp (Int64.ofInt a) (Int64.ofInt b) ↔ b < a := by rw [lg_cmp_gt, oI_lt hb ha]
theorem kLt {a b : Int} (ha : inL a) (hb : inL b) : lg_cmp (Int64.ofInt a) (Int64.ofInt b) < 0 ↔ a < b := by rw [lg_cmp_lt, oI_lt ha hb]
theorem kEq {a b : Int} (ha : inL a) (hb : inL b) : lg_cmp (Int64.ofInt a) (Int64.ofInt b) = 0 ↔ a = b := by rw [lg_cmp_eq, oI_eq ha hb]
theorem kGe0 {a : Int} (ha : inL a) : 0 ≤ lg_cmp (Int64.ofInt a) 0 ↔ 0 ≤ a := by rw [oI_0]; exact kGe ha inL_0
theorem kLe0 {a : Int} (ha : inL a) : lg_cmp (Int64.ofInt a) 0 ≤ 0 ↔ a ≤ 0 := by rw [oI_0]; exact kLe ha inL_0
theorem kGt0 {a : Int} (ha : inL a) : 0 < lg_cmp (Int64.ofInt a) 0 ↔ 0 < a := by rw [oI_0]; exact kGt ha inL_0
theorem kLt0 {a : Int} (ha : inL a) : lg_cmp (Int64.ofInt a) 0 < 0 ↔ a < 0 := by rw [oI_0]; exact kLt ha inL_0
theorem kEq0 {a : Int} (ha : inL a) : lg_cmp (Int64.ofInt a) 0 = 0 ↔ a = 0 := by rw [oI_0]; exact kEq ha inL_0
theorem oI_div {a b : Int} (ha : inL a) (hb : inL b) : Int64.ofInt a / Int64.ofInt b = Int64.ofInt (a.tdiv b) := by
  refine Int64.toInt_inj.mp ?_
  have hab : inL (a.tdiv b) := by
    have h1 : (a.tdiv b).natAbs ≤ a.natAbs := by rw [Int.natAbs_tdiv]; exact Nat.div_le_self _ _
    have := ha.1; have := ha.2
    constructor <;> omega
  rw [Int64.toInt_div_of_ne_left _ _ (by intro h; have := congrArg Int64.toInt h; rw [oI_toInt ha] at this; have h2 := ha.1; rw [this] at h2; exact absurd h2 (by decide)), oI_toInt ha, oI_toInt hb, oI_toInt hab]
def dot (u v : V3) : Int := u.1 * v.1 + u.2.1 * v.2.1 + u.2.2 * v.2.2
theorem oI_dot (u v : V3) : Int64.ofInt u.1 * Int64.ofInt v.1 + Int64.ofInt u.2.1 * Int64.ofInt v.2.1 + Int64.ofInt u.2.2 * Int64.ofInt v.2.2 = Int64.ofInt (dot u v) := by
  unfold dot
  rw [Int64.ofInt_add, Int64.ofInt_add, Int64.ofInt_mul, Int64.ofInt_mul, Int64.ofInt_mul]
def neg3 (v : V3) : V3 := (-v.1, -v.2.1, -v.2.2)
