/-! HOW MANY EDGES A SUM GOES THROUGH -/
def hN (n x : V3) : Int := n.2.1 * x.2.1 + n.2.2 * x.2.2
def fN (n x : V3) : Int := n.2.1 * x.2.2 - n.2.2 * x.2.1
def MinN (n : V3) (Y : List V3) (m : V3) : Prop := m ∈ Y ∧ ∀ z ∈ Y, hN n m * z.1 ≤ hN n z * m.1
def LastN (n : V3) (Y : List V3) (m : V3) : Prop := MinN n Y m ∧ ∀ y, MinN n Y y → fN n y * m.1 ≤ fN n m * y.1
def TwoN (n : V3) (Y : List V3) : Prop := ∃ y y', MinN n Y y ∧ MinN n Y y' ∧ xp y y' ≠ O3
theorem top_ex (f : V3 → Int) (Q : V3 → Prop) : ∀ {Y : List V3}, (∀ y ∈ Y, 0 < y.1) → (∃ y, y ∈ Y ∧ Q y) → ∃ m, m ∈ Y ∧ Q m ∧ ∀ y ∈ Y, Q y → f y * m.1 ≤ f m * y.1
  | [], _, h => by obtain ⟨_, h, _⟩ := h; exact absurd h List.not_mem_nil
  | x :: Y, hp, h => by
    have hx := hp x List.mem_cons_self
    by_cases c : ∃ y, y ∈ Y ∧ Q y
    · obtain ⟨m, m1, m2, m3⟩ := top_ex f Q (fun y hy => hp y (List.mem_cons_of_mem _ hy)) c
      have hm := hp m (List.mem_cons_of_mem _ m1)
      by_cases d : Q x ∧ f m * x.1 ≤ f x * m.1
      · refine ⟨x, List.mem_cons_self, d.1, fun y hy q => ?_⟩
        rcases List.mem_cons.mp hy with rfl | hy'
        · exact Int.le_refl _
        · exact fr_trans (hp y hy) hm hx (m3 y hy' q) d.2
      · refine ⟨m, List.mem_cons_of_mem _ m1, m2, fun y hy q => ?_⟩
        rcases List.mem_cons.mp hy with rfl | hy'
        · have : ¬ f m * y.1 ≤ f y * m.1 := fun z => d ⟨q, z⟩
          omega
        · exact m3 y hy' q
    · obtain ⟨y, hy, q⟩ := h
      rcases List.mem_cons.mp hy with rfl | hy'
      · refine ⟨y, List.mem_cons_self, q, fun z hz q' => ?_⟩
        rcases List.mem_cons.mp hz with rfl | hz'
        · exact Int.le_refl _
        · exact absurd ⟨z, hz', q'⟩ c
      · exact absurd ⟨y, hy', q⟩ c
theorem last_ex {n : V3} {Y : List V3} (hp : ∀ y ∈ Y, 0 < y.1) (h : TwoN n Y) : ∃ m, m ∈ Y ∧ LastN n Y m := by
  obtain ⟨y, _, h1, _⟩ := h
  obtain ⟨m, m1, m2, m3⟩ := top_ex (fN n) (MinN n Y) hp ⟨y, h1.1, h1⟩
  exact ⟨m, m1, m2, fun y hy => m3 y hy.1 hy⟩
theorem nn_0 {n : V3} (h : nid n = true) : 0 < n.2.1 * n.2.1 + n.2.2 * n.2.2 := by
  have h := nid_iff.mp h
  have a := sq_nn n.2.1
  have b := sq_nn n.2.2
  refine Classical.byContradiction fun q => h ⟨sq0 (by omega), sq0 (by omega)⟩
/-- another one on the same side, behind the last -/
theorem last_y {n m : V3} {Y : List V3} (hp : ∀ y ∈ Y, 0 < y.1) (hn : nid n = true) (h2 : TwoN n Y) (hm : LastN n Y m) : ∃ y, y ∈ Y ∧ hN n y * m.1 = hN n m * y.1 ∧ fN n y * m.1 < fN n m * y.1 := by
  have m1 := hp m hm.1.1
  have key : ∀ y, MinN n Y y → xp m y ≠ O3 → ∃ y, y ∈ Y ∧ hN n y * m.1 = hN n m * y.1 ∧ fN n y * m.1 < fN n m * y.1 := fun y hy hx => by
    have y1 := hp y hy.1
    have e1 := hy.2 m hm.1.1
    have e2 := hm.1.2 y hy.1
    have eh : hN n y * m.1 = hN n m * y.1 := by omega
    refine ⟨y, hy.1, eh, ?_⟩
    have l := hm.2 y hy
    refine Classical.byContradiction fun q => hx ?_
    have ef : fN n y * m.1 = fN n m * y.1 := by omega
    have N := nn_0 hn
    unfold hN at eh
    unfold fN at ef
    have k1 : (n.2.1 * n.2.1 + n.2.2 * n.2.2) * (y.2.1 * m.1 - m.2.1 * y.1) = 0 := by grind
    have k2 : (n.2.1 * n.2.1 + n.2.2 * n.2.2) * (y.2.2 * m.1 - m.2.2 * y.1) = 0 := by grind
    have k1 := z_of N k1
    have k2 := z_of N k2
    refine v_ext ?_ ?_ ?_
    · show m.2.1 * y.2.2 - m.2.2 * y.2.1 = 0
      refine z_of m1 ?_
      have : m.1 * (m.2.1 * y.2.2 - m.2.2 * y.2.1) = m.2.1 * (y.2.2 * m.1) - m.2.2 * (y.2.1 * m.1) := by grind
      rw [this, show y.2.2 * m.1 = m.2.2 * y.1 by omega, show y.2.1 * m.1 = m.2.1 * y.1 by omega]
      grind
    · show m.2.2 * y.1 - m.1 * y.2.2 = 0
      rw [Int.mul_comm m.1]; omega
    · show m.1 * y.2.1 - m.2.1 * y.1 = 0
      rw [Int.mul_comm m.1]; omega
  obtain ⟨y, y', h1, h2, h3⟩ := h2
  by_cases c : xp m y = O3
  · refine key y' h2 fun q => h3 (par_trans (fun z => ?_) c q)
    rw [z] at m1
    exact absurd m1 (by simp)
  · exact key y h1 c
theorem det_le {n n' m y : V3} (hn : nid n = true) (eh : hN n y * m.1 = hN n m * y.1) (ef : fN n y * m.1 < fN n m * y.1) (h : hN n' m * y.1 ≤ hN n' y * m.1) : n.2.1 * n'.2.2 - n.2.2 * n'.2.1 ≤ 0 := by
  have N := nn_0 hn
  unfold hN at eh h
  unfold fN at ef
  have k : (n.2.1 * n.2.1 + n.2.2 * n.2.2) * ((n'.2.1 * y.2.1 + n'.2.2 * y.2.2) * m.1 - (n'.2.1 * m.2.1 + n'.2.2 * m.2.2) * y.1) = -(((n.2.1 * m.2.2 - n.2.2 * m.2.1) * y.1 - (n.2.1 * y.2.2 - n.2.2 * y.2.1) * m.1) * (n.2.1 * n'.2.2 - n.2.2 * n'.2.1)) := by grind
  have h1 := Int.mul_nonneg (show 0 ≤ (n.2.1 * n.2.1 + n.2.2 * n.2.2) by omega) (show 0 ≤ (n'.2.1 * y.2.1 + n'.2.2 * y.2.2) * m.1 - (n'.2.1 * m.2.1 + n'.2.2 * m.2.2) * y.1 by omega)
  rw [k] at h1
  refine Classical.byContradiction fun q => ?_
  have := Int.mul_pos (show 0 < (n.2.1 * m.2.2 - n.2.2 * m.2.1) * y.1 - (n.2.1 * y.2.2 - n.2.2 * y.2.1) * m.1 by omega) (show 0 < n.2.1 * n'.2.2 - n.2.2 * n'.2.1 by omega)
  omega
/-- who is last for two is last for one direction -/
theorem last_uni {n n' m : V3} {Y : List V3} (hp : ∀ y ∈ Y, 0 < y.1) (hn : nid n = true) (hn' : nid n' = true) (h2 : TwoN n Y) (h2' : TwoN n' Y) (hm : LastN n Y m) (hm' : LastN n' Y m) :
    n.2.1 * n'.2.2 - n.2.2 * n'.2.1 = 0 ∧ 0 < n.2.1 * n'.2.1 + n.2.2 * n'.2.2 := by
  obtain ⟨y, y1, y2, y3⟩ := last_y hp hn h2 hm
  obtain ⟨z, z1, z2, z3⟩ := last_y hp hn' h2' hm'
  have a := det_le (n' := n') hn y2 y3 (hm'.1.2 y y1)
  have b := det_le (n' := n) hn' z2 z3 (hm.1.2 z z1)
  have d : n.2.1 * n'.2.2 - n.2.2 * n'.2.1 = 0 := by
    have : n'.2.1 * n.2.2 - n'.2.2 * n.2.1 = -(n.2.1 * n'.2.2 - n.2.2 * n'.2.1) := by grind
    omega
  refine ⟨d, ?_⟩
  have N := nn_0 hn
  have N' := nn_0 hn'
  have m1 := hp m hm.1.1
  -- z is as low as m for n too
  have eh : hN n z * m.1 = hN n m * z.1 := by
    unfold hN at z2 ⊢
    unfold fN at z3
    have k : (n'.2.1 * n'.2.1 + n'.2.2 * n'.2.2) * ((n.2.1 * z.2.1 + n.2.2 * z.2.2) * m.1 - (n.2.1 * m.2.1 + n.2.2 * m.2.2) * z.1) = ((n'.2.1 * m.2.2 - n'.2.2 * m.2.1) * z.1 - (n'.2.1 * z.2.2 - n'.2.2 * z.2.1) * m.1) * (n.2.1 * n'.2.2 - n.2.2 * n'.2.1) := by grind
    rw [d, Int.mul_zero] at k
    have := z_of N' k
    omega
  have mz : MinN n Y z := ⟨z1, fun w hw => fr_trans (p := z.1) (q := m.1) (s := w.1) (b := hN n m) (hp z z1) m1 (hp w hw) (by omega) (hm.1.2 w hw)⟩
  have l := hm.2 z mz
  have s0 : 0 ≤ n.2.1 * n'.2.1 + n.2.2 * n'.2.2 := by
    unfold hN at z2
    unfold fN at z3 l
    have k : (n'.2.1 * n'.2.1 + n'.2.2 * n'.2.2) * ((n.2.1 * m.2.2 - n.2.2 * m.2.1) * z.1 - (n.2.1 * z.2.2 - n.2.2 * z.2.1) * m.1) = ((n'.2.1 * m.2.2 - n'.2.2 * m.2.1) * z.1 - (n'.2.1 * z.2.2 - n'.2.2 * z.2.1) * m.1) * (n.2.1 * n'.2.1 + n.2.2 * n'.2.2) := by grind
    have h1 := Int.mul_nonneg (show 0 ≤ n'.2.1 * n'.2.1 + n'.2.2 * n'.2.2 by omega) (show 0 ≤ (n.2.1 * m.2.2 - n.2.2 * m.2.1) * z.1 - (n.2.1 * z.2.2 - n.2.2 * z.2.1) * m.1 by omega)
    rw [k] at h1
    exact nn_of_pos (show 0 < (n'.2.1 * m.2.2 - n'.2.2 * m.2.1) * z.1 - (n'.2.1 * z.2.2 - n'.2.2 * z.2.1) * m.1 by omega) h1
  refine pos_ne s0 fun q => ?_
  have k : (n.2.1 * n.2.1 + n.2.2 * n.2.2) * (n'.2.1 * n'.2.1 + n'.2.2 * n'.2.2) = (n.2.1 * n'.2.2 - n.2.2 * n'.2.1) * (n.2.1 * n'.2.2 - n.2.2 * n'.2.1) + (n.2.1 * n'.2.1 + n.2.2 * n'.2.2) * (n.2.1 * n'.2.1 + n.2.2 * n'.2.2) := by grind
  rw [d, q] at k
  have := Int.mul_pos N N'
  omega
/-- two rows of one direction, both at the border, are one -/
theorem same_dir {e f x x' : V3} (hn : nid e = true) (hx : 0 < x.1) (hx' : 0 < x'.1) (ex : dot e x = 0) (fx' : dot f x' = 0) (fx : 0 ≤ dot f x) (ex' : 0 ≤ dot e x')
    (d : e.2.1 * f.2.2 - e.2.2 * f.2.1 = 0) (s : 0 < e.2.1 * f.2.1 + e.2.2 * f.2.2) : xp e f = O3 := by
  have N := nn_0 hn
  have k1 : (e.2.1 * e.2.1 + e.2.2 * e.2.2) * f.2.1 = (e.2.1 * f.2.1 + e.2.2 * f.2.2) * e.2.1 := by grind
  have k2 : (e.2.1 * e.2.1 + e.2.2 * e.2.2) * f.2.2 = (e.2.1 * f.2.1 + e.2.2 * f.2.2) * e.2.2 := by grind
  generalize e.2.1 * e.2.1 + e.2.2 * e.2.2 = A at *
  generalize e.2.1 * f.2.1 + e.2.2 * f.2.2 = B at *
  unfold dot at ex fx' fx ex'
  have c1 : 0 ≤ (A * f.1 - B * e.1) * x.1 := by
    have : (A * f.1 - B * e.1) * x.1 = A * (f.1 * x.1 + f.2.1 * x.2.1 + f.2.2 * x.2.2) - B * (e.1 * x.1 + e.2.1 * x.2.1 + e.2.2 * x.2.2) := by grind
    rw [this, ex, Int.mul_zero, Int.sub_zero]
    exact Int.mul_nonneg (by omega) fx
  have c2 : 0 ≤ (B * e.1 - A * f.1) * x'.1 := by
    have : (B * e.1 - A * f.1) * x'.1 = B * (e.1 * x'.1 + e.2.1 * x'.2.1 + e.2.2 * x'.2.2) - A * (f.1 * x'.1 + f.2.1 * x'.2.1 + f.2.2 * x'.2.2) := by grind
    rw [this, fx', Int.mul_zero, Int.sub_zero]
    exact Int.mul_nonneg (by omega) ex'
  rw [Int.mul_comm] at c1 c2
  have c1 := nn_of_pos hx c1
  have c2 := nn_of_pos hx' c2
  have es : sm A f = sm B e := v_ext (by show A * f.1 = B * e.1; omega) k1 k2
  refine Classical.byContradiction fun q => sm_ne (k := A) (by omega) q ?_
  rw [← xp_sm', es, xp_sm', xp_self, sm_O]
theorem inj_le {R : V3 → V3 → Prop} : ∀ {E Y : List V3}, E.Pairwise (fun e f => ∀ m, R e m → R f m → False) → (∀ e ∈ E, ∃ m, m ∈ Y ∧ R e m) → E.length ≤ Y.length
  | [], _, _, _ => by simp
  | e :: E, Y, h, hR => by
    obtain ⟨h1, h2⟩ := List.pairwise_cons.mp h
    obtain ⟨m, hm, re⟩ := hR e List.mem_cons_self
    have := inj_le (E := E) (Y := Y.erase m) h2 fun f hf => by
      obtain ⟨m', hm', rf⟩ := hR f (List.mem_cons_of_mem _ hf)
      refine ⟨m', (List.mem_erase_of_ne fun q => ?_).mpr hm', rf⟩
      rw [q] at rf
      exact h1 f hf m re rf
    rw [List.length_erase_of_mem hm] at this
    have := List.length_pos_of_mem hm
    rw [List.length_cons]
    omega
theorem filt_2 (p : V3 → Bool) : ∀ l : List V3, l.length = (l.filter p).length + (l.filter fun e => !p e).length
  | [] => rfl
  | x :: l => by
    have := filt_2 p l
    rw [List.filter_cons, List.filter_cons]
    cases p x <;> simp <;> omega
theorem sum_dot (e a b : V3) : dot e (sumV a b) = e.1 * (a.1 * b.1) + b.1 * hN e a + a.1 * hN e b := by unfold dot sumV hN; grind
theorem mem_sums {E1 E2 : List V3} {v : V3} : v ∈ sums E1 E2 ↔ ∃ a b, a ∈ E1 ∧ b ∈ E2 ∧ 0 < a.1 ∧ 0 < b.1 ∧ v = sumV a b := by
  unfold sums sumR
  simp only [List.mem_flatMap]
  constructor
  · rintro ⟨a, ha, b, hb, q⟩
    split at q
    · rename_i c
      exact ⟨a, b, ha, hb, c.1, c.2, List.mem_singleton.mp q⟩
    · exact absurd q List.not_mem_nil
  · rintro ⟨a, b, ha, hb, h1, h2, rfl⟩
    exact ⟨a, ha, b, hb, by rw [if_pos ⟨h1, h2⟩]; simp⟩
theorem sum_par {a b a' b' : V3} (ha : 0 < a.1) (hb : 0 < b.1) (h1 : xp a a' = O3) (h2 : xp b b' = O3) : xp (sumV a b) (sumV a' b') = O3 := by
  have a2 := congrArg (fun v : V3 => v.2.1) h1
  have a3 := congrArg (fun v : V3 => v.2.2) h1
  have b2 := congrArg (fun v : V3 => v.2.1) h2
  have b3 := congrArg (fun v : V3 => v.2.2) h2
  have a2 : a.2.2 * a'.1 - a.1 * a'.2.2 = 0 := a2
  have a3 : a.1 * a'.2.1 - a.2.1 * a'.1 = 0 := a3
  have b2 : b.2.2 * b'.1 - b.1 * b'.2.2 = 0 := b2
  have b3 : b.1 * b'.2.1 - b.2.1 * b'.1 = 0 := b3
  have es : sm (a.1 * b.1) (sumV a' b') = sm (a'.1 * b'.1) (sumV a b) := by
    unfold sm sumV
    refine v_ext ?_ ?_ ?_
    · show a.1 * b.1 * (a'.1 * b'.1) = a'.1 * b'.1 * (a.1 * b.1); grind
    · show a.1 * b.1 * (a'.2.1 * b'.1 + b'.2.1 * a'.1) = a'.1 * b'.1 * (a.2.1 * b.1 + b.2.1 * a.1)
      grind
    · show a.1 * b.1 * (a'.2.2 * b'.1 + b'.2.2 * a'.1) = a'.1 * b'.1 * (a.2.2 * b.1 + b.2.2 * a.1)
      grind
  refine Classical.byContradiction fun q => sm_ne (k := a.1 * b.1) (by have := Int.mul_pos ha hb; omega) q ?_
  rw [← xp_sm', es, xp_sm', xp_self, sm_O]
/-- a whole block of sums: as many edges as directions -/
theorem sums_len (E1 E2 : List V3) : (cutA (e3, []) (sums E1 E2)).2.length ≤ (E1.filter fun v => decide (0 < v.1)).length + (E2.filter fun v => decide (0 < v.1)).length + 3 := by
  obtain ⟨hI, _⟩ := cutA_all (sums E1 E2)
  generalize (cutA (e3, []) (sums E1 E2)).1 = L at hI
  generalize (cutA (e3, []) (sums E1 E2)).2 = E at hI
  obtain ⟨_, ⟨b1, _, b3⟩, _, d, _⟩ := hI
  have main : L = [] → E.length ≤ (E1.filter fun v => decide (0 < v.1)).length + (E2.filter fun v => decide (0 < v.1)).length := by
    rintro rfl
    let Y1 := E1.filter fun v => decide (0 < v.1)
    let Y2 := E2.filter fun v => decide (0 < v.1)
    have p1 : ∀ y ∈ Y1, 0 < y.1 := fun y hy => of_decide_eq_true (List.mem_filter.mp hy).2
    have p2 : ∀ y ∈ Y2, 0 < y.1 := fun y hy => of_decide_eq_true (List.mem_filter.mp hy).2
    have X : ∀ e ∈ E, ∀ a b, a ∈ Y1 → b ∈ Y2 → 0 ≤ dot e (sumV a b) := fun e he a b ha hb => by
      rw [dot_comm]
      exact (b1 e he).1 _ (mem_sums.mpr ⟨a, b, (List.mem_filter.mp ha).1, (List.mem_filter.mp hb).1, p1 a ha, p2 b hb, rfl⟩)
    have T : ∀ e ∈ E, ∃ a b a' b', a ∈ Y1 ∧ b ∈ Y2 ∧ a' ∈ Y1 ∧ b' ∈ Y2 ∧ dot e (sumV a b) = 0 ∧ dot e (sumV a' b') = 0 ∧ xp (sumV a b) (sumV a' b') ≠ O3 := fun e he => by
      obtain ⟨_, _, u, v, ⟨hu, zu⟩, ⟨hv, zv⟩, hx⟩ := b1 e he
      obtain ⟨a, b, ha, hb, h1, h2, rfl⟩ := mem_sums.mp hu
      obtain ⟨a', b', ha', hb', h1', h2', rfl⟩ := mem_sums.mp hv
      exact ⟨a, b, a', b', List.mem_filter.mpr ⟨ha, decide_eq_true h1⟩, List.mem_filter.mpr ⟨hb, decide_eq_true h2⟩, List.mem_filter.mpr ⟨ha', decide_eq_true h1'⟩, List.mem_filter.mpr ⟨hb', decide_eq_true h2'⟩, by rw [dot_comm]; exact zu, by rw [dot_comm]; exact zv, hx⟩
    have M : ∀ e ∈ E, ∀ a b, a ∈ Y1 → b ∈ Y2 → dot e (sumV a b) = 0 → MinN e Y1 a ∧ MinN e Y2 b := fun e he a b ha hb z => by
      have a1 := p1 a ha
      have b1 := p2 b hb
      refine ⟨⟨ha, fun w hw => ?_⟩, ⟨hb, fun w hw => ?_⟩⟩
      · have t := X e he w b hw hb
        have w1 := p1 w hw
        rw [sum_dot] at z t
        have k := Int.mul_nonneg (show 0 ≤ a.1 by omega) t
        have : a.1 * (e.1 * (w.1 * b.1) + b.1 * hN e w + w.1 * hN e b) = w.1 * (e.1 * (a.1 * b.1) + b.1 * hN e a + a.1 * hN e b) + b.1 * (hN e w * a.1 - hN e a * w.1) := by grind
        rw [this, z, Int.mul_zero, Int.zero_add] at k
        have := nn_of_pos b1 k
        omega
      · have t := X e he a w ha hw
        have w1 := p2 w hw
        rw [sum_dot] at z t
        have k := Int.mul_nonneg (show 0 ≤ b.1 by omega) t
        have : b.1 * (e.1 * (a.1 * w.1) + w.1 * hN e a + a.1 * hN e w) = w.1 * (e.1 * (a.1 * b.1) + b.1 * hN e a + a.1 * hN e b) + a.1 * (hN e w * b.1 - hN e b * w.1) := by grind
        rw [this, z, Int.mul_zero, Int.zero_add] at k
        have := nn_of_pos a1 k
        omega
    have N : ∀ e ∈ E, nid e = true := fun e he => nid_iff.mpr fun q => by
      obtain ⟨a, b, a', b', h1, h2, h3, h4, h5, h6, h7⟩ := T e he
      have g := (b1 e he).2.1
      refine prim_ne g (v_ext ?_ q.1 q.2)
      rw [sum_dot] at h5
      unfold hN at h5
      rw [q.1, q.2] at h5
      simp only [Int.zero_mul, Int.mul_zero, Int.add_zero] at h5
      have := Int.mul_pos (p1 a h1) (p2 b h2)
      exact (Int.mul_eq_zero.mp h5).resolve_right (by omega)
    have W : ∀ e ∈ E, TwoN e Y1 ∨ TwoN e Y2 := fun e he => by
      obtain ⟨a, b, a', b', h1, h2, h3, h4, h5, h6, h7⟩ := T e he
      obtain ⟨m1, m2⟩ := M e he a b h1 h2 h5
      obtain ⟨m3, m4⟩ := M e he a' b' h3 h4 h6
      by_cases c : xp a a' = O3
      · exact Or.inr ⟨b, b', m2, m4, fun q => h7 (sum_par (p1 a h1) (p2 b h2) c q)⟩
      · exact Or.inl ⟨a, a', m1, m3, c⟩
    have U : ∀ e f, e ∈ E → f ∈ E → xp e f ≠ O3 → e.2.1 * f.2.2 - e.2.2 * f.2.1 = 0 → ¬ 0 < e.2.1 * f.2.1 + e.2.2 * f.2.2 := fun e f he hf hx d s => by
      obtain ⟨a, b, _, _, h1, h2, _, _, h5, _⟩ := T e he
      obtain ⟨a', b', _, _, h1', h2', _, _, h5', _⟩ := T f hf
      exact hx (same_dir (N e he) (Int.mul_pos (p1 a h1) (p2 b h2)) (Int.mul_pos (p1 a' h1') (p2 b' h2')) h5 h5' (X f hf a b h1 h2) (X e he a' b' h1' h2') d s)
    have pw : ∀ (Y : List V3), (∀ y ∈ Y, 0 < y.1) → E.Pairwise (fun e f => ∀ m, (TwoN e Y ∧ LastN e Y m) → (TwoN f Y ∧ LastN f Y m) → False) := fun Y hY => by
      refine b3.imp_of_mem ?_
      intro e f he hf hx m h1 h2
      obtain ⟨d, s⟩ := last_uni hY (N e he) (N f hf) h1.1 h2.1 h1.2 h2.2
      exact U e f he hf hx d s
    classical
    have l1 := inj_le (E := E.filter fun e => decide (TwoN e Y1)) (Y := Y1) ((pw Y1 p1).sublist List.filter_sublist) fun e he => by
      have h2 := of_decide_eq_true (List.mem_filter.mp he).2
      obtain ⟨m, hm, hl⟩ := last_ex p1 h2
      exact ⟨m, hm, h2, hl⟩
    have l2 := inj_le (E := E.filter fun e => !decide (TwoN e Y1)) (Y := Y2) ((pw Y2 p2).sublist List.filter_sublist) fun e he => by
      obtain ⟨h0, h1⟩ := List.mem_filter.mp he
      have h2 : TwoN e Y2 := (W e h0).resolve_left (by simpa using h1)
      obtain ⟨m, hm, hl⟩ := last_ex p2 h2
      exact ⟨m, hm, h2, hl⟩
    have l1 : (E.filter fun e => decide (TwoN e Y1)).length ≤ (E1.filter fun v => decide (0 < v.1)).length := l1
    have l2 : (E.filter fun e => !decide (TwoN e Y1)).length ≤ (E2.filter fun v => decide (0 < v.1)).length := l2
    have tot : E.length = (E.filter fun e => decide (TwoN e Y1)).length + (E.filter fun e => !decide (TwoN e Y1)).length := filt_2 _ _
    omega
  by_cases c : L = []
  · have := main c; omega
  · have := d c; omega
