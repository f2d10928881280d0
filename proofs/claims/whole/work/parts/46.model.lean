/-! THE REFERENCE's HEAP: its object is number 60, its arrays 61 .. 71; all it holds is a table of whole numbers.
1 numbers, 2 many, 3 rows, 4 g, 5 k, 6 found, 7 c, 8 normal, 9 flat, 10 made, 11 making; 12 code, 13 said, 14 gn, 15 kn, 16 fn, 17 bounded, 18 top, 19 bottom -/
abbrev MM : Type := Nat → Nat → Int
def mL (m : MM) (a : Nat) : Nat → Int64 := fun i => Int64.ofInt (m a i)
def mI (m : MM) (a : Nat) : Nat → Int32 := fun i => Int32.ofInt (m a i)
def mF (m : MM) (a : Nat) : Int32 := Int32.ofInt (m a 0)
def toM (m : MM) : PH := [.inr (4, [.int (mF m 12), .int (mF m 13), .ref 61, .ref 62, .ref 63, .int (mF m 14), .int (mF m 15), .int (mF m 16), .ref 64, .ref 65, .ref 66, .ref 67, .ref 68, .ref 69, .ref 70, .ref 71, .int (mF m 17), .long (mL m 18 0), .long (mL m 19 0)]),
  .inl (0, 6, .inl (mI m 1)), .inl (0, 20, .inl (mI m 2)), .inl (0, 960, .inl (mI m 3)), .inl (1, 1800, .inr (.inl (mL m 4))), .inl (1, 1800, .inr (.inl (mL m 5))), .inl (1, 1800, .inr (.inl (mL m 6))), .inl (1, 3, .inr (.inl (mL m 7))), .inl (1, 3, .inr (.inl (mL m 8))), .inl (2, 600, .inl (mI m 9)), .inl (0, 5, .inl (mI m 10)), .inl (1, 9000, .inr (.inl (mL m 11)))]
def MR (m : MM) (D Z h : PH) : Prop := D.length = 60 ∧ h = D ++ (toM m ++ Z)
def mu (m : MM) (a i : Nat) (v : Int) : MM := va_up m a (va_up (m a) i v)
theorem mu_self (m : MM) (a i : Nat) (v : Int) : mu m a i v a = va_up (m a) i v := va_up_self _ _ _
theorem mu_ne (m : MM) {a b : Nat} (i : Nat) (v : Int) (h : b ≠ a) : mu m a i v b = m b := va_up_ne _ _ h
theorem mu_at (m : MM) (a i : Nat) (v : Int) : mu m a i v a i = v := by rw [mu_self, va_up_self]
theorem mu_at_ne (m : MM) (a : Nat) {i j : Nat} (v : Int) (h : j ≠ i) : mu m a i v a j = m a j := by rw [mu_self, va_up_ne _ _ h]
theorem mL_mu (m : MM) (a i : Nat) (v : Int) : mL (mu m a i v) a = vp_updL (mL m a) i (Int64.ofInt v) := by
  funext j
  unfold mL vp_updL
  by_cases h : j = i
  · rw [h, mu_at, if_pos rfl]
  · rw [mu_at_ne _ _ _ h, if_neg h]
theorem mI_mu (m : MM) (a i : Nat) (v : Int) : mI (mu m a i v) a = upd (mI m a) i (Int32.ofInt v) := by
  funext j
  unfold mI upd
  by_cases h : j = i
  · rw [h, mu_at, if_pos rfl]
  · rw [mu_at_ne _ _ _ h, if_neg h]
abbrev larr (a : Nat) : Prop := a = 4 ∨ a = 5 ∨ a = 6 ∨ a = 7 ∨ a = 8 ∨ a = 11
abbrev iarr (a : Nat) : Prop := a = 1 ∨ a = 2 ∨ a = 3 ∨ a = 10
def alen (a : Nat) : Nat := if a = 7 ∨ a = 8 then 3 else if a = 11 then 9000 else 1800
theorem alen_lt (a : Nat) : alen a < 2 ^ 31 := by
  unfold alen
  repeat (first | decide | split)
theorem ia {X Y : Int32} {a b : Nat} (hx : X = nI a) (hy : Y = nI b) : X + Y = nI (a + b) := by rw [hx, hy, nI_add]
theorem im {X Y : Int32} {a b : Nat} (hx : X = nI a) (hy : Y = nI b) : X * Y = nI (a * b) := by rw [hx, hy, pk_mul]
theorem ixv {I : Int32} {k n : Nat} (h : I = nI k) (hk : k < n) (hn : n < 2 ^ 31) : vp_in I n := by rw [h]; exact vp_in_nI hk hn
theorem ixc {I : Int32} {k : Nat} (h : I = nI k) (hk : k < 2 ^ 31) : I.toNatClampNeg = k := by rw [h]; exact nI_clamp hk
theorem nI_ofI (n : Nat) : Int32.ofInt (n : Int) = nI n := rfl
section MREP
variable {m : MM} {D Z h : PH}
theorem MR.M (hm : MR m D Z h) : h[60]? = some (.inr (4, [.int (mF m 12), .int (mF m 13), .ref 61, .ref 62, .ref 63, .int (mF m 14), .int (mF m 15), .int (mF m 16), .ref 64, .ref 65, .ref 66, .ref 67, .ref 68, .ref 69, .ref 70, .ref 71, .int (mF m 17), .long (mL m 18 0), .long (mL m 19 0)])) := by
  obtain ⟨hd, rfl⟩ := hm
  rw [List.getElem?_append_right (by omega), hd]; rfl
theorem MR.L4 (hm : MR m D Z h) : h[64]? = some (.inl (1, 1800, .inr (.inl (mL m 4)))) := by
  obtain ⟨hd, rfl⟩ := hm
  rw [List.getElem?_append_right (by omega), hd]; rfl
theorem MR.L5 (hm : MR m D Z h) : h[65]? = some (.inl (1, 1800, .inr (.inl (mL m 5)))) := by
  obtain ⟨hd, rfl⟩ := hm
  rw [List.getElem?_append_right (by omega), hd]; rfl
theorem MR.L6 (hm : MR m D Z h) : h[66]? = some (.inl (1, 1800, .inr (.inl (mL m 6)))) := by
  obtain ⟨hd, rfl⟩ := hm
  rw [List.getElem?_append_right (by omega), hd]; rfl
theorem MR.L7 (hm : MR m D Z h) : h[67]? = some (.inl (1, 3, .inr (.inl (mL m 7)))) := by
  obtain ⟨hd, rfl⟩ := hm
  rw [List.getElem?_append_right (by omega), hd]; rfl
theorem MR.L8 (hm : MR m D Z h) : h[68]? = some (.inl (1, 3, .inr (.inl (mL m 8)))) := by
  obtain ⟨hd, rfl⟩ := hm
  rw [List.getElem?_append_right (by omega), hd]; rfl
theorem MR.L11 (hm : MR m D Z h) : h[71]? = some (.inl (1, 9000, .inr (.inl (mL m 11)))) := by
  obtain ⟨hd, rfl⟩ := hm
  rw [List.getElem?_append_right (by omega), hd]; rfl
theorem MR.I1 (hm : MR m D Z h) : h[61]? = some (.inl (0, 6, .inl (mI m 1))) := by
  obtain ⟨hd, rfl⟩ := hm
  rw [List.getElem?_append_right (by omega), hd]; rfl
theorem MR.I2 (hm : MR m D Z h) : h[62]? = some (.inl (0, 20, .inl (mI m 2))) := by
  obtain ⟨hd, rfl⟩ := hm
  rw [List.getElem?_append_right (by omega), hd]; rfl
theorem MR.I3 (hm : MR m D Z h) : h[63]? = some (.inl (0, 960, .inl (mI m 3))) := by
  obtain ⟨hd, rfl⟩ := hm
  rw [List.getElem?_append_right (by omega), hd]; rfl
theorem MR.I10 (hm : MR m D Z h) : h[70]? = some (.inl (0, 5, .inl (mI m 10))) := by
  obtain ⟨hd, rfl⟩ := hm
  rw [List.getElem?_append_right (by omega), hd]; rfl
theorem MR.B9 (hm : MR m D Z h) : h[69]? = some (.inl (2, 600, .inl (mI m 9))) := by
  obtain ⟨hd, rfl⟩ := hm
  rw [List.getElem?_append_right (by omega), hd]; rfl
theorem MR.L (hm : MR m D Z h) {a : Nat} (ha : larr a) : h[a + 60]? = some (.inl (1, alen a, .inr (.inl (mL m a)))) := by
  rcases ha with rfl | rfl | rfl | rfl | rfl | rfl
  · exact hm.L4
  · exact hm.L5
  · exact hm.L6
  · exact hm.L7
  · exact hm.L8
  · exact hm.L11
theorem set_D {D X : PH} (hd : D.length = 60) (a : Nat) (y : va_E) : (D ++ X).set (a + 60) y = D ++ X.set a y := by
  rw [List.set_append_right _ _ (by omega), hd, Nat.add_sub_cancel]
theorem MR.sL (hm : MR m D Z h) {a i : Nat} {v : Int} {x : Int64} (ha : larr a) (hx : x = Int64.ofInt v) : MR (mu m a i v) D Z (h.set (a + 60) (.inl (1, alen a, .inr (.inl (vp_updL (mL m a) i x))))) := by
  obtain ⟨hd, rfl⟩ := hm
  refine ⟨hd, ?_⟩
  rw [set_D hd, hx, ← mL_mu]
  congr 1
  rcases ha with rfl | rfl | rfl | rfl | rfl | rfl <;> rfl
theorem MR.sI (hm : MR m D Z h) {a i : Nat} {v : Int} {x : Int32} (ha : iarr a) (hx : x = Int32.ofInt v) : MR (mu m a i v) D Z (h.set (a + 60) (.inl (0, if a = 1 then 6 else if a = 2 then 20 else if a = 3 then 960 else 5, .inl (upd (mI m a) i x)))) := by
  obtain ⟨hd, rfl⟩ := hm
  refine ⟨hd, ?_⟩
  rw [set_D hd, hx, ← mI_mu]
  congr 1
  rcases ha with rfl | rfl | rfl | rfl <;> rfl
theorem MR.sB (hm : MR m D Z h) {a i : Nat} {v : Int} {x : Int32} (ha : a = 9) (hx : x = Int32.ofInt v) : MR (mu m 9 i v) D Z (h.set 69 (.inl (2, 600, .inl (upd (mI m 9) i x)))) := by
  obtain ⟨hd, rfl⟩ := hm
  refine ⟨hd, ?_⟩
  rw [show 69 = 9 + 60 from rfl, set_D hd, hx, ← mI_mu]
  rfl
theorem MR.code (hm : MR m D Z h) {x : Int32} {v : Int} (hx : x = Int32.ofInt v) : MR (mu m 12 0 v) D Z (h.set 60 (.inr (4, [.int x, .int (mF m 13), .ref 61, .ref 62, .ref 63, .int (mF m 14), .int (mF m 15), .int (mF m 16), .ref 64, .ref 65, .ref 66, .ref 67, .ref 68, .ref 69, .ref 70, .ref 71, .int (mF m 17), .long (mL m 18 0), .long (mL m 19 0)]))) := by
  obtain ⟨hd, rfl⟩ := hm
  refine ⟨hd, ?_⟩
  rw [show 60 = 0 + 60 from rfl, set_D hd, hx]
  rfl
theorem MR.said (hm : MR m D Z h) {x : Int32} {v : Int} (hx : x = Int32.ofInt v) : MR (mu m 13 0 v) D Z (h.set 60 (.inr (4, [.int (mF m 12), .int x, .ref 61, .ref 62, .ref 63, .int (mF m 14), .int (mF m 15), .int (mF m 16), .ref 64, .ref 65, .ref 66, .ref 67, .ref 68, .ref 69, .ref 70, .ref 71, .int (mF m 17), .long (mL m 18 0), .long (mL m 19 0)]))) := by
  obtain ⟨hd, rfl⟩ := hm
  refine ⟨hd, ?_⟩
  rw [show 60 = 0 + 60 from rfl, set_D hd, hx]
  rfl
theorem MR.gn (hm : MR m D Z h) {x : Int32} {v : Int} (hx : x = Int32.ofInt v) : MR (mu m 14 0 v) D Z (h.set 60 (.inr (4, [.int (mF m 12), .int (mF m 13), .ref 61, .ref 62, .ref 63, .int x, .int (mF m 15), .int (mF m 16), .ref 64, .ref 65, .ref 66, .ref 67, .ref 68, .ref 69, .ref 70, .ref 71, .int (mF m 17), .long (mL m 18 0), .long (mL m 19 0)]))) := by
  obtain ⟨hd, rfl⟩ := hm
  refine ⟨hd, ?_⟩
  rw [show 60 = 0 + 60 from rfl, set_D hd, hx]
  rfl
theorem MR.kn (hm : MR m D Z h) {x : Int32} {v : Int} (hx : x = Int32.ofInt v) : MR (mu m 15 0 v) D Z (h.set 60 (.inr (4, [.int (mF m 12), .int (mF m 13), .ref 61, .ref 62, .ref 63, .int (mF m 14), .int x, .int (mF m 16), .ref 64, .ref 65, .ref 66, .ref 67, .ref 68, .ref 69, .ref 70, .ref 71, .int (mF m 17), .long (mL m 18 0), .long (mL m 19 0)]))) := by
  obtain ⟨hd, rfl⟩ := hm
  refine ⟨hd, ?_⟩
  rw [show 60 = 0 + 60 from rfl, set_D hd, hx]
  rfl
theorem MR.fn (hm : MR m D Z h) {x : Int32} {v : Int} (hx : x = Int32.ofInt v) : MR (mu m 16 0 v) D Z (h.set 60 (.inr (4, [.int (mF m 12), .int (mF m 13), .ref 61, .ref 62, .ref 63, .int (mF m 14), .int (mF m 15), .int x, .ref 64, .ref 65, .ref 66, .ref 67, .ref 68, .ref 69, .ref 70, .ref 71, .int (mF m 17), .long (mL m 18 0), .long (mL m 19 0)]))) := by
  obtain ⟨hd, rfl⟩ := hm
  refine ⟨hd, ?_⟩
  rw [show 60 = 0 + 60 from rfl, set_D hd, hx]
  rfl
theorem MR.bnd (hm : MR m D Z h) {x : Int32} {v : Int} (hx : x = Int32.ofInt v) : MR (mu m 17 0 v) D Z (h.set 60 (.inr (4, [.int (mF m 12), .int (mF m 13), .ref 61, .ref 62, .ref 63, .int (mF m 14), .int (mF m 15), .int (mF m 16), .ref 64, .ref 65, .ref 66, .ref 67, .ref 68, .ref 69, .ref 70, .ref 71, .int x, .long (mL m 18 0), .long (mL m 19 0)]))) := by
  obtain ⟨hd, rfl⟩ := hm
  refine ⟨hd, ?_⟩
  rw [show 60 = 0 + 60 from rfl, set_D hd, hx]
  rfl
theorem MR.top (hm : MR m D Z h) {x : Int64} {v : Int} (hx : x = Int64.ofInt v) : MR (mu m 18 0 v) D Z (h.set 60 (.inr (4, [.int (mF m 12), .int (mF m 13), .ref 61, .ref 62, .ref 63, .int (mF m 14), .int (mF m 15), .int (mF m 16), .ref 64, .ref 65, .ref 66, .ref 67, .ref 68, .ref 69, .ref 70, .ref 71, .int (mF m 17), .long x, .long (mL m 19 0)]))) := by
  obtain ⟨hd, rfl⟩ := hm
  refine ⟨hd, ?_⟩
  rw [show 60 = 0 + 60 from rfl, set_D hd, hx]
  rfl
theorem MR.bot (hm : MR m D Z h) {x : Int64} {v : Int} (hx : x = Int64.ofInt v) : MR (mu m 19 0 v) D Z (h.set 60 (.inr (4, [.int (mF m 12), .int (mF m 13), .ref 61, .ref 62, .ref 63, .int (mF m 14), .int (mF m 15), .int (mF m 16), .ref 64, .ref 65, .ref 66, .ref 67, .ref 68, .ref 69, .ref 70, .ref 71, .int (mF m 17), .long (mL m 18 0), .long x]))) := by
  obtain ⟨hd, rfl⟩ := hm
  refine ⟨hd, ?_⟩
  rw [show 60 = 0 + 60 from rfl, set_D hd, hx]
  rfl
end MREP
/-- what has not changed -/
def Fx (l : List Nat) (m m' : MM) : Prop := ∀ a, a ∉ l → m' a = m a
theorem Fx.refl {l : List Nat} {m : MM} : Fx l m m := fun _ _ => rfl
theorem Fx.mu {l : List Nat} {m m' : MM} {a i : Nat} {v : Int} (h : Fx l m m') (ha : a ∈ l) : Fx l m (mu m' a i v) := fun b hb => by
  rw [mu_ne _ _ _ (fun q => hb (by rw [q]; exact ha))]; exact h b hb
theorem Fx.trans {l : List Nat} {m m' m'' : MM} (h : Fx l m m') (h' : Fx l m' m'') : Fx l m m'' := fun b hb => by rw [h' b hb, h b hb]
theorem Fx.mono {l k : List Nat} {m m' : MM} (h : Fx l m m') (hs : ∀ a ∈ l, a ∈ k) : Fx k m m' := fun b hb => h b (fun q => hb (hs b q))
def vAt (m : MM) (a p : Nat) : V3 := (m a p, m a (p + 1), m a (p + 2))
/-- rows from place b on -/
def RW (m : MM) (a b : Nat) (l : List V3) : Prop := ∀ i, i < l.length → vAt m a (b + 3 * i) = gt l i
theorem vAt_eq {m m' : MM} {a p : Nat} (h : m' a = m a) : vAt m' a p = vAt m a p := by unfold vAt; rw [h]
theorem RW.eq {m m' : MM} {a b : Nat} {l : List V3} (hw : RW m a b l) (h : m' a = m a) : RW m' a b l := fun i hi => by rw [vAt_eq h]; exact hw i hi
