/-! THE LAW: the class beside the reference -/
def oA (f : Nat → Int64) : va_E := .inl (1, 1, .inr (.inl f))
theorem toD_len (w : DW) : (toD w).length = 60 := rfl
theorem RepS.model {W : AW} {m : MM} {Z h : PH} (hr : RepS W (toM m ++ Z) h) : ∃ D, MR m D Z h ∧ ∀ m' h', MR m' D Z h' → RepS W (toM m' ++ Z) h' := by
  obtain ⟨S, w, rfl, h2, hl⟩ := hr
  refine ⟨toD w, ⟨toD_len w, rfl⟩, fun m' h' hm => ?_⟩
  obtain ⟨_, rfl⟩ := hm
  exact ⟨S, w, rfl, h2, hl⟩
theorem RepS.out {W : AW} {m : MM} {f : Nat → Int64} {h : PH} (hr : RepS W (toM m ++ [oA f]) h) : h[72]? = some (.inl (1, 1, .inr (.inl f))) := by
  obtain ⟨S, w, rfl, h2, hl⟩ := hr
  rfl
theorem RepS.sout {W : AW} {m : MM} {f g : Nat → Int64} {h : PH} (hr : RepS W (toM m ++ [oA f]) h) : RepS W (toM m ++ [oA g]) (h.set 72 (.inl (1, 1, .inr (.inl g)))) := by
  obtain ⟨S, w, rfl, h2, hl⟩ := hr
  exact ⟨S, w, rfl, h2, hl⟩
/-- what one of the class's changes comes to, beside the reference's -/
def AgF (P : AW → RSt → Prop) (c : Nat ⊕ SH) (r : RR) (W : AW) (a : RSt) (i n lg : Nat) : Prop := match c with
  | .inl e => r.2.2 = a ∧ ((e = 3 ∧ r.1 = lg) ∨ (e = 2 ∧ r.1 = lg + 1))
  | .inr S => r.1 = 0 ∧ r.2.1 = degS S ∧ P (keepW W i n S) r.2.2
def Bas (W : AW) (a : RSt) : Prop := okS2 a ∧ W.2.1 = a.2.2.1 ∧ (∀ i, i < 6 → nm W i = a.2.1 i) ∧ W.2.2.2.2.1 < 5 ∧ (∀ i, i < 4 → W.2.2.2.1 i < 5 ∧ W.2.2.2.2.1 ≠ W.2.2.2.1 i) ∧ (W.2.2.2.2.2.1 = 2 ↔ a.2.2.2.1 = true)
/-- all of a slot's rows are small -/
def Sml (S : SH) : Prop := (∀ v ∈ S.1.1, bdV 30 v) ∧ (∀ v ∈ S.1.2, bdV 30 v) ∧ (∀ v ∈ S.2.1, bdV 30 v) ∧ (∀ v ∈ S.2.2, bdV 30 v) ∧ ∀ k, k < 5 → cntS S k < 100
/-- a link between class and reference that every call keeps -/
def Good (P : AW → RSt → Prop) : Prop :=
  (∀ W a, P W a → Bas W a ∧ (∀ i, i < 4 → Sml (gS W (W.2.2.2.1 i))) ∧ ∀ S, P (sS W W.2.2.2.2.1 S) a) ∧
  (∀ W a (x : Int32), P W a → ¬ x < -30 → x ≤ 30 → W.2.1 < 6 → P (W.1, W.2.1 + 1, upd W.2.2.1 W.2.1 x, W.2.2.2) (a.1, va_up a.2.1 a.2.2.1 x.toInt, a.2.2.1 + 1, a.2.2.2)) ∧
  (∀ W a, P W a → P (W.1, 0, W.2.2) (s0 a)) ∧
  (okC2 [] ∧ ∀ W a i p, P W a → i < 4 → P (sS W (W.2.2.2.1 i) (setS (bI01 p))) (setT a.1 i p, a.2)) ∧
  (∀ W a i b, P W a → i < 4 → okCst W (W.2.2.2.1 i) (bI01 b) ∧ (cnL [] a.1 i).length ≤ 598 ∧ (a.2.2.1 = 3 → (a.1 i 4 ≠ [] → okC2 (cstL a i b)) ∧ AgF P (finG (cstS W (W.2.2.2.1 i) (bI01 b))) (rCst a (nI i) b) W a i 0 3)) ∧
  (∀ W a i b, P W a → i < 4 → okGen W (W.2.2.2.1 i) (bI01 b) ∧ (agL [] (gnL a.1 i)).length ≤ 598 ∧ (¬ gnBad a b → ((gS W (W.2.2.2.1 i)).2.2 = [] ↔ a.1 i 4 = []) ∧ (¬ (a.1 i 4 = [] ∧ a.2.1 0 = 0) → okG2 (genL a i b) ∧ AgF P (finK (gnS W (W.2.2.2.1 i) (bI01 b))) (rGen a (nI i) b) W a i 0 4))) ∧
  (∀ W a i j, P W a → i < 4 → j < 4 → (∀ q, q < 3 → okCmb (gS W (W.2.2.2.1 i)) (gS W (W.2.2.2.1 j)) q) ∧ (a.1 i 4 ≠ [] → a.1 j 4 ≠ [] → okC2 (cnL (cnL [] a.1 i) a.1 j)) ∧ (a.1 i 4 ≠ [] → a.1 j 4 ≠ [] → okG2 (agL [] (tsL a.1 i j))) ∧ okG2 (agL (agL [] (gnL a.1 i)) (gnL a.1 j)) ∧
    ∀ t q, t < 4 → q < 3 → AgF P (cmF (gS W (W.2.2.2.1 i)) (gS W (W.2.2.2.1 j)) q) (rCmb a (nI q) (nI i) (nI j) (nI t)) W a t W.2.1 3) ∧
  (∀ W a i b, P W a → i < 4 → okMap W (gS W (W.2.2.2.1 i)) (bI01 b) ∧ (a.1 i 4 ≠ [] → a.2.2.1 = 6 → okC2 (mbL a i)) ∧ (a.1 i 4 ≠ [] → a.2.2.1 = 6 → okG2 (mpL a i)) ∧ (a.2.2.1 = 6 → ∀ t, t < 4 → AgF P (mpF W (gS W (W.2.2.2.1 i)) (bI01 b)) (rMap a (nI i) b (nI t)) W a t 0 3)) ∧
  (∀ W a i, P W a → i < 4 → a.2.2.1 = 2 → mxV W (W.2.2.2.1 i) = (rMax a (nI i)).2.1 ∧ P (set0 (mxW W (W.2.2.2.1 i))) (rMax a (nI i)).2.2) ∧
  (∀ W a, P W a → a.2.2.2.1 = true → W.2.2.2.2.2.2.1 = Int32.ofInt a.2.2.2.2.1 ∧ W.2.2.2.2.2.2.2 = Int32.ofInt a.2.2.2.2.2) ∧
  (∀ W a i, P W a → i < 4 → (decide (¬ (gS W (W.2.2.2.1 i)).2.2 = []) && alB (gS W (W.2.2.2.1 i)).1.1 (gS W (W.2.2.2.1 i)).1.2 (N3 W)) = hoB a.1 i (num3 a)) ∧
  (∀ W a i k, P W a → i < 4 → k < 4 → (decide ((gS W (W.2.2.2.1 k)).2.2 = []) || (decide (¬ (gS W (W.2.2.2.1 i)).2.2 = []) && aaB (gS W (W.2.2.2.1 i)).1.1 (gS W (W.2.2.2.1 i)).1.2 (gS W (W.2.2.2.1 k)).2.1 (gS W (W.2.2.2.1 k)).2.2)) = (agL [] (gnL a.1 k)).all (hoB a.1 i)) ∧
  (∀ W a i, P W a → i < 4 → degS (gS W (W.2.2.2.1 i)) = dimI (a.1 i 4) (a.1 i 0) ∧ ∀ k, k < 5 → cntS (gS W (W.2.2.2.1 i)) k = (a.1 i k).length ∧ ∀ q, q < (a.1 i k).length → celS (gS W (W.2.2.2.1 i)) k q = gt (a.1 i k) q)
theorem slB_f {x : Int32} (h : slB x) : slotB x = false := decide_eq_false (fun q => q h)
theorem slB_t {x : Int32} (h : ¬ slB x) : slotB x = true := decide_eq_true h
theorem nm_i {W : AW} {a : RSt} (hb : Bas W a) {i : Nat} (hi : i < 6) : W.2.2.1 i = Int32.ofInt (a.2.1 i) := by
  rw [← hb.2.2.1 i hi]
  unfold nm
  exact (Int32.ofInt_toInt _).symm
theorem b01_0 {b : Bool} : (bI01 b = 0) ↔ b = false := by cases b <;> simp [bI01]
section LAWH
variable {sc : Scr} {d : Nat} {W : AW} {m : MM} {o : Nat → Int64} {h : PH} {Q : Out → PH → Prop} {a : RSt} {P : AW → RSt → Prop}
theorem L_say (G : Good P) (hP : P W a) (hr : RepS W (toM m ++ [oA o]) h) {x : Int32}
    (hQ : ∀ W' o' h', RepS W' (toM m ++ [oA o']) h' → P W' (rSay a x).2.2 → ((rSay a x).1 = 0 → o' 0 = (rSay a x).2.1.toInt64) → Q (.inl (some (.int (nI (rSay a x).1)))) h') : wpC sc (d + 7) 144 [.ref 0, .int x, .ref 72] h Q := by
  obtain ⟨hb, hsm, hdr⟩ := G.1 W a hP
  have hs := hb.1.2.2
  unfold rSay at hQ
  refine enter rfl rfl (fun call hc => go hc 10 (fun K hK => ?_))
  conv => whnf
  refine ⟨_, hr.D, Nat.le_of_ble_eq_true rfl, ?_⟩
  conv => whnf
  refine callee hc (s_say hr (by rw [hb.2.1]; exact hs) ?_ ?_ ?_)
  · intro q
    rw [if_pos q] at hQ
    conv => whnf
    exact hQ W o h hr hP (fun z => by cases z)
  · intro q1 q2 q3
    rw [if_neg (fun z => z.elim q1 (fun z => z q2)), if_pos (by rw [← hb.2.1]; exact q3)] at hQ
    conv => whnf
    exact hQ W o h hr hP (fun z => by cases z)
  · intro q1 q2 q3 h' hr'
    have q4 : a.2.2.1 < 6 := by rw [← hb.2.1]; exact q3
    rw [if_neg (fun z => z.elim q1 (fun z => z q2)), if_neg (by omega)] at hQ
    conv => whnf
    refine ⟨_, _, hr'.out, vp_in_nI (n := 0) (by omega) (by omega), ?_⟩
    conv => whnf
    rw [hb.2.1]
    exact hQ _ _ _ hr'.sout (G.2.1 W a x hP q1 q2 q3) (fun _ => if_pos rfl)
end LAWH
