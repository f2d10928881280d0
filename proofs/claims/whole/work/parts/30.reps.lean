/-! but for the scratch -/
section REPS
variable {sc : Scr} {d : Nat} {W : AW} {X h : PH} {j c : Nat} {Q : Out → PH → Prop}
theorem RepS.R (hr : RepS W X h) (j : Nat) (hj : j < 20) : h[rid j]? = some (.inr (1, [.ref (rid j + 1), .int (nI (W.1 j).length)])) := by
  obtain ⟨S, hr⟩ := hr
  have := hr.R j (by omega)
  rw [sl_ne _ _ (by omega)] at this
  exact this
theorem RepS.C (hr : RepS W X h) (c : Nat) (hc : c < 10) : h[cid c]? = some (.inr (0, [.int (nI (c % 2)), .ref (rid (2 * c)), .ref (rid (2 * c + 1)), .ref (rid 20)])) := by
  obtain ⟨S, hr⟩ := hr
  exact hr.C c hc
theorem RepS.S (hr : RepS W X h) (t : Nat) (ht : t < 5) : h[sid t]? = some (.inr (2, [.ref (cid (2 * t)), .ref (cid (2 * t + 1))])) := by
  obtain ⟨S, hr⟩ := hr
  exact hr.S t ht
theorem RepS.D (hr : RepS W X h) : h[0]? = some (.inr (3, [.ref 3, .int (nI W.2.1), .ref 4, .ref (sid W.2.2.2.2.1), .int W.2.2.2.2.2.1, .int W.2.2.2.2.2.2.1, .int W.2.2.2.2.2.2.2])) := by
  obtain ⟨S, hr⟩ := hr
  exact hr.D
theorem RepS.N (hr : RepS W X h) : h[3]? = some (.inl (0, 6, .inl W.2.2.1)) := by
  obtain ⟨S, hr⟩ := hr
  exact hr.N
theorem RepS.T (hr : RepS W X h) : h[4]? = some (.inl (3, 4, .inr (.inr (.inr (.inr (slf W.2.2.2.1)))))) := by
  obtain ⟨S, hr⟩ := hr
  exact hr.T
theorem RepS.c48 (hr : RepS W X h) {j : Nat} (hj : j < 20) : (W.1 j).length ≤ 48 := by
  obtain ⟨S, hr⟩ := hr
  have := hr.c48 (j := j) (by omega)
  rw [sl_ne _ _ (by omega)] at this
  exact this
theorem RepS.of {S : List V3} (hr : Rep (sl W 20 S) X h) : RepS W X h := ⟨S, hr⟩
theorem RepS.ofC (hc0 : c < 10) {L E S : List V3} (hr : Rep (sC (sl W 20 S) c L E) X h) : RepS (sC W c L E) X h := ⟨S, by rw [sC_20 _ hc0]; exact hr⟩
theorem RepS.ofCS (hc0 : c < 10) {L E S : List V3} (hr : RepS (sC (sl W 20 S) c L E) X h) : RepS (sC W c L E) X h := by
  obtain ⟨S', hr⟩ := hr
  rw [sC_20 _ hc0, sl_sl] at hr
  exact ⟨S', by rw [sC_20 _ hc0]; exact hr⟩
theorem s_count (hr : RepS W X h) (hj : j < 20) (hQ : Q (.inl (some (.int (nI (W.1 j).length)))) h) : wpC sc (d + 1) 19 [.ref (rid j)] h Q := by
  obtain ⟨S, hr⟩ := hr
  exact r_count hr (by omega) (by rw [sl_ne _ _ (by omega)]; exact hQ)
theorem s_at0 (hr : RepS W X h) {i : Nat} (hj : j < 20) (hi : i < (W.1 j).length) (hQ : Q (.inl (some (.long (Int64.ofInt (gt (W.1 j) i).1)))) h) : wpC sc (d + 1) 21 [.ref (rid j), .int (nI i), .int 0] h Q := by
  obtain ⟨S, hr⟩ := hr
  exact r_at0 hr (by omega) (by rw [sl_ne _ _ (by omega)]; exact hi) (by rw [sl_ne _ _ (by omega)]; exact hQ)
theorem s_at1 (hr : RepS W X h) {i : Nat} (hj : j < 20) (hi : i < (W.1 j).length) (hQ : Q (.inl (some (.long (Int64.ofInt (gt (W.1 j) i).2.1)))) h) : wpC sc (d + 1) 21 [.ref (rid j), .int (nI i), .int 1] h Q := by
  obtain ⟨S, hr⟩ := hr
  exact r_at1 hr (by omega) (by rw [sl_ne _ _ (by omega)]; exact hi) (by rw [sl_ne _ _ (by omega)]; exact hQ)
theorem s_at2 (hr : RepS W X h) {i : Nat} (hj : j < 20) (hi : i < (W.1 j).length) (hQ : Q (.inl (some (.long (Int64.ofInt (gt (W.1 j) i).2.2)))) h) : wpC sc (d + 1) 21 [.ref (rid j), .int (nI i), .int 2] h Q := by
  obtain ⟨S, hr⟩ := hr
  exact r_at2 hr (by omega) (by rw [sl_ne _ _ (by omega)]; exact hi) (by rw [sl_ne _ _ (by omega)]; exact hQ)
theorem s_atK (hr : RepS W X h) {i k : Nat} (hj : j < 20) (hi : i < (W.1 j).length) (hk : k < 3) (hQ : Q (.inl (some (.long (Int64.ofInt (cmp3 (gt (W.1 j) i) k))))) h) : wpC sc (d + 1) 21 [.ref (rid j), .int (nI i), .int (nI k)] h Q := by
  obtain ⟨S, hr⟩ := hr
  exact r_atK hr (by omega) (by rw [sl_ne _ _ (by omega)]; exact hi) hk (by rw [sl_ne _ _ (by omega)]; exact hQ)
theorem s_product (hr : RepS W X h) {i : Nat} (u : V3) {a b c : Int64} (hj : j < 20) (hi : i < (W.1 j).length) (ha : a = Int64.ofInt u.1) (hb : b = Int64.ofInt u.2.1) (hc0 : c = Int64.ofInt u.2.2) (hQ : Q (.inl (some (.long (Int64.ofInt (dot (gt (W.1 j) i) u))))) h) : wpC sc (d + 2) 28 [.ref (rid j), .int (nI i), .long a, .long b, .long c] h Q := by
  obtain ⟨S, hr⟩ := hr
  exact r_product hr u (by omega) (by rw [sl_ne _ _ (by omega)]; exact hi) ha hb hc0 (by rw [sl_ne _ _ (by omega)]; exact hQ)
theorem s_isWithin (hr : RepS W X h) (hj : j < 20) (hb : ∀ v ∈ W.1 j, inV v) (h0 : ¬ (∀ v ∈ W.1 j, ok3 v) → Q (.inl (some (.int 0))) h) (h1 : (∀ v ∈ W.1 j, ok3 v) → Q (.inl (some (.int 1))) h) : wpC sc (d + 2) 32 [.ref (rid j), .long 30] h Q := by
  obtain ⟨S, hr⟩ := hr
  have e : (sl W 20 S).1 j = W.1 j := sl_ne _ _ (by omega)
  exact r_isWithin hr (by omega) (by rw [e]; exact hb) (by rw [e]; exact h0) (by rw [e]; exact h1)
theorem s_cclear (hr : RepS W X h) (hc0 : c < 10) (hQ : ∀ h, RepS (sC W c [] []) X h → Q (.inl none) h) : wpC sc (d + 2) 1 [.ref (cid c)] h Q := by
  obtain ⟨S, hr⟩ := hr
  exact r_cclear hr hc0 fun h hr => hQ h (RepS.ofC hc0 hr)
theorem s_startAll (hr : RepS W X h) (hc0 : c < 10) (hQ : ∀ h, RepS (sC W c e3 []) X h → Q (.inl none) h) : wpC sc (d + 3) 2 [.ref (cid c)] h Q := by
  obtain ⟨S, hr⟩ := hr
  exact r_startAll hr hc0 fun h hr => hQ h (RepS.ofC hc0 hr)
theorem s_rayCount (hr : RepS W X h) (hc0 : c < 10) (hb : ∀ v ∈ W.1 (2 * c + 1), inV v) (hQ : Q (.inl (some (.int (nI (rcV c (W.1 (2 * c + 1))))))) h) : wpC sc (d + 3) 15 [.ref (cid c)] h Q := by
  obtain ⟨S, hr⟩ := hr
  have e : (sl W 20 S).1 (2 * c + 1) = W.1 (2 * c + 1) := sl_ne _ _ (by omega)
  exact r_rayCount hr hc0 (by rw [e]; exact hb) (by rw [e]; exact hQ)
theorem s_allow (hr : RepS W X h) (hc0 : c < 10) (a : V3) {x y z : Int64} (hx : x = Int64.ofInt a.1) (hy : y = Int64.ofInt a.2.1) (hz : z = Int64.ofInt a.2.2) (hb : ∀ v ∈ W.1 (2 * c + 1), inL (dot v a)) (hbl : ∀ v ∈ W.1 (2 * c), inL (dot v a)) (hQ : Q (.inl (some (.int (bI01 (alB (W.1 (2 * c)) (W.1 (2 * c + 1)) a))))) h) : wpC sc (d + 3) 16 [.ref (cid c), .long x, .long y, .long z] h Q := by
  obtain ⟨S, hr⟩ := hr
  have e : (sl W 20 S).1 (2 * c + 1) = W.1 (2 * c + 1) := sl_ne _ _ (by omega)
  have e' : (sl W 20 S).1 (2 * c) = W.1 (2 * c) := sl_ne _ _ (by omega)
  exact r_allow hr hc0 a hx hy hz (by rw [e]; exact hb) (by rw [e']; exact hbl) (by rw [e, e']; exact hQ)
theorem s_allowAll (hr : RepS W X h) {c2 : Nat} (hc0 : c < 10) (hc2 : c2 < 10)
    (hb : ∀ a ∈ W.1 (2 * c2 + 1), (∀ v ∈ W.1 (2 * c + 1), inL (dot v a)) ∧ ∀ v ∈ W.1 (2 * c), inL (dot v a))
    (hbl : ∀ a ∈ W.1 (2 * c2), (∀ v ∈ W.1 (2 * c + 1), inL (dot v a)) ∧ ∀ v ∈ W.1 (2 * c), inL (dot v a))
    (hQ : Q (.inl (some (.int (bI01 (aaB (W.1 (2 * c)) (W.1 (2 * c + 1)) (W.1 (2 * c2)) (W.1 (2 * c2 + 1))))))) h) : wpC sc (d + 4) 17 [.ref (cid c), .ref (cid c2)] h Q := by
  obtain ⟨S, hr⟩ := hr
  have e : ∀ j, j < 20 → (sl W 20 S).1 j = W.1 j := fun j hj => sl_ne _ _ (by omega)
  refine r_allowAll hr hc0 hc2 ?_ ?_ ?_
  · rw [e _ (by omega), e _ (by omega), e _ (by omega)]; exact hb
  · rw [e _ (by omega), e _ (by omega), e _ (by omega)]; exact hbl
  · rw [e _ (by omega), e _ (by omega), e _ (by omega), e _ (by omega)]; exact hQ
theorem s_settle (hr : RepS W X h) (hc0 : c < 10) (hbl : bdL (W.1 (2 * c))) (hbe : bdL (W.1 (2 * c + 1)))
    (hbl1 : bdL (st1 1 (W.1 (2 * c), W.1 (2 * c + 1), 0)).1) (hbe1 : bdL (st1 1 (W.1 (2 * c), W.1 (2 * c + 1), 0)).2.1) (hbe2 : bdL (stt (W.1 (2 * c)) (W.1 (2 * c + 1))).2.1)
    (hQ : ∀ h, RepS (sC W c (stt (W.1 (2 * c)) (W.1 (2 * c + 1))).1 (sortE c (dI c (stt (W.1 (2 * c)) (W.1 (2 * c + 1))).2.1))) X h → Q (.inl none) h) : wpC sc (d + 5) 9 [.ref (cid c)] h Q := by
  obtain ⟨S, hr⟩ := hr
  have e : (sl W 20 S).1 (2 * c + 1) = W.1 (2 * c + 1) := sl_ne _ _ (by omega)
  have e' : (sl W 20 S).1 (2 * c) = W.1 (2 * c) := sl_ne _ _ (by omega)
  refine r_settle hr hc0 ?_ ?_ ?_ ?_ ?_ ?_
  · rw [e']; exact hbl
  · rw [e]; exact hbe
  · rw [e, e']; exact hbl1
  · rw [e, e']; exact hbe1
  · rw [e, e']; exact hbe2
  · rw [e, e']; exact fun h hr => hQ h (RepS.ofC hc0 hr)
theorem s_cut (hr : RepS W X h) (hc0 : c < 10) (a : V3) {x y z : Int64} (hx : x = Int64.ofInt a.1) (hy : y = Int64.ofInt a.2.1) (hz : z = Int64.ofInt a.2.2) (hS : (cutF a (W.1 (2 * c), W.1 (2 * c + 1))).2.length ≤ 48) (hba : bdV RD a) (hbl : bdL (W.1 (2 * c))) (hbe : bdL (W.1 (2 * c + 1)))
    (hQ : ∀ h, RepS (sC W c (cutF a (W.1 (2 * c), W.1 (2 * c + 1))).1 (cutF a (W.1 (2 * c), W.1 (2 * c + 1))).2) X h → Q (.inl none) h) : wpC sc (d + 4) 6 [.ref (cid c), .long x, .long y, .long z] h Q := by
  obtain ⟨S, hr⟩ := hr
  have e : (sl W 20 S).1 (2 * c + 1) = W.1 (2 * c + 1) := sl_ne _ _ (by omega)
  have e' : (sl W 20 S).1 (2 * c) = W.1 (2 * c) := sl_ne _ _ (by omega)
  refine r_cut hr hc0 a hx hy hz ?_ hba ?_ ?_ ?_
  · rw [e, e']; exact hS
  · rw [e']; exact hbl
  · rw [e]; exact hbe
  · rw [e, e']; exact fun h hr => hQ h (RepS.ofCS hc0 hr)
/-! many cuts -/
abbrev LE : Type := List V3 × List V3
def okC (s : LE) : Prop := bdL s.1 ∧ bdL s.2 ∧ s.2.length ≤ 48
def cutA (s : LE) (as : List V3) : LE := as.foldl (fun s a => cutF a s) s
def okR : LE → List V3 → Prop
  | s, [] => okC s
  | s, a :: as => okC s ∧ bdV RD a ∧ okR (cutF a s) as
theorem okR.ok : ∀ {as : List V3} {s : LE}, okR s as → okC s
  | [], _, h => h
  | _ :: _, _, h => h.1
theorem okR_app : ∀ {as bs : List V3} {s : LE}, okR s (as ++ bs) → okR s as ∧ okR (cutA s as) bs
  | [], _, _, h => ⟨h.ok, h⟩
  | a :: as, bs, s, h => by
    have := okR_app (as := as) h.2.2
    exact ⟨⟨h.1, h.2.1, this.1⟩, this.2⟩
theorem cutA_app (s : LE) (as bs : List V3) : cutA s (as ++ bs) = cutA (cutA s as) bs := List.foldl_append
theorem s_cut1 (hr : RepS W X h) (hc0 : c < 10) (a : V3) {x y z : Int64} {s : LE} (hs : W.1 (2 * c) = s.1 ∧ W.1 (2 * c + 1) = s.2) (hx : x = Int64.ofInt a.1) (hy : y = Int64.ofInt a.2.1) (hz : z = Int64.ofInt a.2.2) (hok : okR s [a])
    (hQ : ∀ h, RepS (sC W c (cutF a s).1 (cutF a s).2) X h → Q (.inl none) h) : wpC sc (d + 4) 6 [.ref (cid c), .long x, .long y, .long z] h Q := by
  have e : cutF a (W.1 (2 * c), W.1 (2 * c + 1)) = cutF a s := by rw [hs.1, hs.2]
  refine s_cut hr hc0 a hx hy hz ?_ hok.2.1 ?_ ?_ ?_
  · rw [e]; exact hok.2.2.2.2
  · rw [hs.1]; exact hok.1.1
  · rw [hs.2]; exact hok.1.2.1
  · rw [e]; exact hQ
end REPS
