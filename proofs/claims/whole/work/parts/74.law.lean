/-! THE LAW's LOOP -/
section LAW
variable {P : AW → RSt → Prop}
abbrev Ql : Out → PH → Prop := fun o _ => o = .inl (some (.int 1))
def hdL (i : Nat) (ex : LV) : LV := (0, .ref SID) :: (1, .ref 0) :: (2, .ref 60) :: (3, .ref 72) :: (4, .int (nI i)) :: ex
def Hex (ex : LV) : Prop := ex = [] ∨ (∃ u, ex = [(5, .int u)]) ∨ ∃ u v, ex = [(5, .int u), (6, .int v)]
theorem subl {r k : Nat} (h : Nat.ble k 20 = true) : r ≤ r + 20 - k := by have := Nat.le_of_ble_eq_true h; omega
theorem subs {r k : Nat} (h : Nat.ble k 100 = true) : r ≤ r + 100 - k := by have := Nat.le_of_ble_eq_true h; omega
theorem i5 (i : Nat) : nI i + 5 = nI (i + 5) := ia rfl (rfl : (5 : Int32) = nI 5)
theorem has_bit {a : RSt} {x : Int32} : ((rHas a x).2.1 = 0 ∧ (rHas a x).2.1.toInt64 = 0) ∨ ((rHas a x).2.1 ≠ 0 ∧ (rHas a x).2.1.toInt64 = 1) := by
  unfold rHas
  split
  · exact Or.inl ⟨rfl, rfl⟩
  · split
    · exact Or.inl ⟨rfl, rfl⟩
    · cases hoB a.1 x.toNatClampNeg (num3 a)
      · exact Or.inl ⟨rfl, rfl⟩
      · exact Or.inr ⟨(show (1 : Int32) ≠ 0 by decide), rfl⟩
theorem inc_bit {a : RSt} {x y : Int32} : ((rInc a x y).2.1 = 0 ∧ (rInc a x y).2.1.toInt64 = 0) ∨ ((rInc a x y).2.1 ≠ 0 ∧ (rInc a x y).2.1.toInt64 = 1) := by
  unfold rInc
  split
  · exact Or.inl ⟨rfl, rfl⟩
  · cases (agL [] (gnL a.1 y.toNatClampNeg)).all (hoB a.1 x.toNatClampNeg)
    · exact Or.inl ⟨rfl, rfl⟩
    · exact Or.inr ⟨(show (1 : Int32) ≠ 0 by decide), rfl⟩
theorem cd_fin (a : RSt) (i : Nat) (M : Nat → List V3) (lg : Nat) (sd : Bool) (h : lg < 10) : (rFin a i M lg sd).1 < 2 ^ 31 := by
  unfold rFin
  split
  · show 0 < 2 ^ 31; decide
  · show (if fltF M = 1 then lg else lg + 1) < 2 ^ 31
    split <;> omega

theorem lw_say {L : Nat} {xs : Nat → Int32} {call : Callee} (hc : call = wpC (L, xs) 11) (hL : L ≤ 320) (G : Good P) {i : Nat} (hi : i + 5 ≤ L) {W : AW} {a : RSt} {m : MM} {o : Nat → Int64} {h : PH} (hP : P W a) (rz : RZ m a) (hr : RepS W (toM m ++ [oA o]) h) {r s : Nat}
    {ex : LV} (hex : Hex ex) (next : ∀ W a m o h rc rs ex, Hex ex → P W a → RZ m a → RepS W (toM m ++ [oA o]) h → r ≤ rc → s ≤ rs → Runs 11 call (L, xs) m_L_law Ql 23 (hdL (i + 5) ex) [] h rc rs) :
    Runs 11 call (L, xs) m_L_law Ql 108 (hdL i ex) [] h (r + 20) (s + 100) := by
  have bb0 := (G.1 W a hP).1
  have hcode : (rSay a (xs (i + 1))).1 < 2 ^ 31 := by
    unfold rSay
    repeat (first | exact cd_fin _ _ _ _ _ (by decide) | (show 0 < 2 ^ 31; decide) | (show 1 < 2 ^ 31; decide) | (show 2 < 2 ^ 31; decide) | (show 3 < 2 ^ 31; decide) | split)
  rcases hex with rfl | ⟨u5, rfl⟩ | ⟨u5, u6, rfl⟩
  · refine go hc 0 (fun K hK => ?_)
    conv => whnf
    refine hK _ _ _ _ _ _ (go hc 21 (fun K hK => ?_))
    conv => whnf
    refine Or.inl ⟨rfl, ixv (k := i + 1) (ia (rfl : nI i = nI i) (rfl : (1 : Int32) = nI 1)) (show i + 1 < L by omega) (by omega), ?_⟩
    rw [ixc (k := i + 1) (ia (rfl : nI i = nI i) (rfl : (1 : Int32) = nI 1)) (by omega)]
    conv => whnf
    refine ⟨Nat.le_of_ble_eq_true rfl, ?_⟩
    conv => whnf
    refine callee hc (L_say G hP hr ?_)
    intro W1 o1 h1 hr1 hP1 ho1
    conv => whnf
    refine Or.inl ⟨rfl, ixv (k := i + 1) (ia (rfl : nI i = nI i) (rfl : (1 : Int32) = nI 1)) (show i + 1 < L by omega) (by omega), ?_⟩
    rw [ixc (k := i + 1) (ia (rfl : nI i = nI i) (rfl : (1 : Int32) = nI 1)) (by omega)]
    conv => whnf
    obtain ⟨D, hm, back⟩ := hr1.model
    refine ⟨_, hm.M, Nat.le_of_ble_eq_true rfl, ?_⟩
    conv => whnf
    refine callee hc (e_say hm rz bb0.1 ?_)
    intro m2 h2 hm rz2 c2
    have hr2 := back m2 h2 hm
    conv => whnf
    refine ⟨_, hm.M, Nat.le_of_ble_eq_true rfl, ?_⟩
    conv => whnf
    refine callee hc (e_thrown hm ?_)
    rw [mF_of c2]
    conv => whnf
    refine ⟨fun c_ => ?_, fun c_ => absurd rfl c_⟩
    conv => whnf
    refine hK _ _ _ _ _ _ (go hc 2 (fun K hK => ?_))
    conv => whnf
    by_cases cz : (rSay a (xs (i + 1))).1 = 0
    · rw [cz]
      have ho := ho1 cz
      refine ⟨fun c_ => ?_, fun c_ => absurd rfl c_⟩
      conv => whnf
      refine hK _ _ _ _ _ _ (go hc 7 (fun K hK => ?_))
      conv => whnf
      refine ⟨_, _, hr2.out, vp_in_nI (n := 0) (by omega) (by omega), ?_⟩
      conv => whnf
      refine ⟨fun c_ => ?_, fun c_ => absurd ((lg_cmp_eq _ _).mpr ho) c_⟩
      conv => whnf
      refine hK _ _ _ _ _ _ (go hc 3 (fun K hK => ?_))
      conv => whnf
      exact hK _ _ _ _ _ _ (by rw [i5]; exact next _ _ _ _ _ _ _ _ (Or.inr (Or.inr ⟨_, _, rfl⟩)) hP1 rz2 hr2 (subl rfl) (subs rfl))
    · refine ⟨fun c_ => absurd c_ (nI_ne0 (Nat.pos_of_ne_zero cz) (hcode)), fun c_ => ?_⟩
      conv => whnf
      refine hK _ _ _ _ _ _ (go hc 3 (fun K hK => ?_))
      conv => whnf
      exact hK _ _ _ _ _ _ (by rw [i5]; exact next _ _ _ _ _ _ _ _ (Or.inr (Or.inr ⟨_, _, rfl⟩)) hP1 rz2 hr2 (subl rfl) (subs rfl))
  · refine go hc 0 (fun K hK => ?_)
    conv => whnf
    refine hK _ _ _ _ _ _ (go hc 21 (fun K hK => ?_))
    conv => whnf
    refine Or.inl ⟨rfl, ixv (k := i + 1) (ia (rfl : nI i = nI i) (rfl : (1 : Int32) = nI 1)) (show i + 1 < L by omega) (by omega), ?_⟩
    rw [ixc (k := i + 1) (ia (rfl : nI i = nI i) (rfl : (1 : Int32) = nI 1)) (by omega)]
    conv => whnf
    refine ⟨Nat.le_of_ble_eq_true rfl, ?_⟩
    conv => whnf
    refine callee hc (L_say G hP hr ?_)
    intro W1 o1 h1 hr1 hP1 ho1
    conv => whnf
    refine Or.inl ⟨rfl, ixv (k := i + 1) (ia (rfl : nI i = nI i) (rfl : (1 : Int32) = nI 1)) (show i + 1 < L by omega) (by omega), ?_⟩
    rw [ixc (k := i + 1) (ia (rfl : nI i = nI i) (rfl : (1 : Int32) = nI 1)) (by omega)]
    conv => whnf
    obtain ⟨D, hm, back⟩ := hr1.model
    refine ⟨_, hm.M, Nat.le_of_ble_eq_true rfl, ?_⟩
    conv => whnf
    refine callee hc (e_say hm rz bb0.1 ?_)
    intro m2 h2 hm rz2 c2
    have hr2 := back m2 h2 hm
    conv => whnf
    refine ⟨_, hm.M, Nat.le_of_ble_eq_true rfl, ?_⟩
    conv => whnf
    refine callee hc (e_thrown hm ?_)
    rw [mF_of c2]
    conv => whnf
    refine ⟨fun c_ => ?_, fun c_ => absurd rfl c_⟩
    conv => whnf
    refine hK _ _ _ _ _ _ (go hc 2 (fun K hK => ?_))
    conv => whnf
    by_cases cz : (rSay a (xs (i + 1))).1 = 0
    · rw [cz]
      have ho := ho1 cz
      refine ⟨fun c_ => ?_, fun c_ => absurd rfl c_⟩
      conv => whnf
      refine hK _ _ _ _ _ _ (go hc 7 (fun K hK => ?_))
      conv => whnf
      refine ⟨_, _, hr2.out, vp_in_nI (n := 0) (by omega) (by omega), ?_⟩
      conv => whnf
      refine ⟨fun c_ => ?_, fun c_ => absurd ((lg_cmp_eq _ _).mpr ho) c_⟩
      conv => whnf
      refine hK _ _ _ _ _ _ (go hc 3 (fun K hK => ?_))
      conv => whnf
      exact hK _ _ _ _ _ _ (by rw [i5]; exact next _ _ _ _ _ _ _ _ (Or.inr (Or.inr ⟨_, _, rfl⟩)) hP1 rz2 hr2 (subl rfl) (subs rfl))
    · refine ⟨fun c_ => absurd c_ (nI_ne0 (Nat.pos_of_ne_zero cz) (hcode)), fun c_ => ?_⟩
      conv => whnf
      refine hK _ _ _ _ _ _ (go hc 3 (fun K hK => ?_))
      conv => whnf
      exact hK _ _ _ _ _ _ (by rw [i5]; exact next _ _ _ _ _ _ _ _ (Or.inr (Or.inr ⟨_, _, rfl⟩)) hP1 rz2 hr2 (subl rfl) (subs rfl))
  · refine go hc 0 (fun K hK => ?_)
    conv => whnf
    refine hK _ _ _ _ _ _ (go hc 21 (fun K hK => ?_))
    conv => whnf
    refine Or.inl ⟨rfl, ixv (k := i + 1) (ia (rfl : nI i = nI i) (rfl : (1 : Int32) = nI 1)) (show i + 1 < L by omega) (by omega), ?_⟩
    rw [ixc (k := i + 1) (ia (rfl : nI i = nI i) (rfl : (1 : Int32) = nI 1)) (by omega)]
    conv => whnf
    refine ⟨Nat.le_of_ble_eq_true rfl, ?_⟩
    conv => whnf
    refine callee hc (L_say G hP hr ?_)
    intro W1 o1 h1 hr1 hP1 ho1
    conv => whnf
    refine Or.inl ⟨rfl, ixv (k := i + 1) (ia (rfl : nI i = nI i) (rfl : (1 : Int32) = nI 1)) (show i + 1 < L by omega) (by omega), ?_⟩
    rw [ixc (k := i + 1) (ia (rfl : nI i = nI i) (rfl : (1 : Int32) = nI 1)) (by omega)]
    conv => whnf
    obtain ⟨D, hm, back⟩ := hr1.model
    refine ⟨_, hm.M, Nat.le_of_ble_eq_true rfl, ?_⟩
    conv => whnf
    refine callee hc (e_say hm rz bb0.1 ?_)
    intro m2 h2 hm rz2 c2
    have hr2 := back m2 h2 hm
    conv => whnf
    refine ⟨_, hm.M, Nat.le_of_ble_eq_true rfl, ?_⟩
    conv => whnf
    refine callee hc (e_thrown hm ?_)
    rw [mF_of c2]
    conv => whnf
    refine ⟨fun c_ => ?_, fun c_ => absurd rfl c_⟩
    conv => whnf
    refine hK _ _ _ _ _ _ (go hc 2 (fun K hK => ?_))
    conv => whnf
    by_cases cz : (rSay a (xs (i + 1))).1 = 0
    · rw [cz]
      have ho := ho1 cz
      refine ⟨fun c_ => ?_, fun c_ => absurd rfl c_⟩
      conv => whnf
      refine hK _ _ _ _ _ _ (go hc 7 (fun K hK => ?_))
      conv => whnf
      refine ⟨_, _, hr2.out, vp_in_nI (n := 0) (by omega) (by omega), ?_⟩
      conv => whnf
      refine ⟨fun c_ => ?_, fun c_ => absurd ((lg_cmp_eq _ _).mpr ho) c_⟩
      conv => whnf
      refine hK _ _ _ _ _ _ (go hc 3 (fun K hK => ?_))
      conv => whnf
      exact hK _ _ _ _ _ _ (by rw [i5]; exact next _ _ _ _ _ _ _ _ (Or.inr (Or.inr ⟨_, _, rfl⟩)) hP1 rz2 hr2 (subl rfl) (subs rfl))
    · refine ⟨fun c_ => absurd c_ (nI_ne0 (Nat.pos_of_ne_zero cz) (hcode)), fun c_ => ?_⟩
      conv => whnf
      refine hK _ _ _ _ _ _ (go hc 3 (fun K hK => ?_))
      conv => whnf
      exact hK _ _ _ _ _ _ (by rw [i5]; exact next _ _ _ _ _ _ _ _ (Or.inr (Or.inr ⟨_, _, rfl⟩)) hP1 rz2 hr2 (subl rfl) (subs rfl))
theorem lw_set {L : Nat} {xs : Nat → Int32} {call : Callee} (hc : call = wpC (L, xs) 11) (hL : L ≤ 320) (G : Good P) {i : Nat} (hi : i + 5 ≤ L) {W : AW} {a : RSt} {m : MM} {o : Nat → Int64} {h : PH} (hP : P W a) (rz : RZ m a) (hr : RepS W (toM m ++ [oA o]) h) {r s : Nat}
    {ex : LV} (hex : Hex ex) (next : ∀ W a m o h rc rs ex, Hex ex → P W a → RZ m a → RepS W (toM m ++ [oA o]) h → r ≤ rc → s ≤ rs → Runs 11 call (L, xs) m_L_law Ql 23 (hdL (i + 5) ex) [] h rc rs) :
    Runs 11 call (L, xs) m_L_law Ql 175 (hdL i ex) [] h (r + 20) (s + 100) := by
  have bb0 := (G.1 W a hP).1
  have main : ∀ p : Bool, ((p = false → xs (i + 2) = 0) ∧ (p = true → ¬ xs (i + 2) = 0)) → Runs 11 call (L, xs) m_L_law Ql 175 (hdL i ex) [] h (r + 20) (s + 100) := by
    intro p hp
    have hcode : (rSet a (xs (i + 1)) p).1 < 2 ^ 31 := by
      unfold rSet
      repeat (first | exact cd_fin _ _ _ _ _ (by decide) | (show 0 < 2 ^ 31; decide) | (show 1 < 2 ^ 31; decide) | (show 2 < 2 ^ 31; decide) | (show 3 < 2 ^ 31; decide) | split)
    cases p with
    | false =>
      have hv := hp.1 rfl
      rcases hex with rfl | ⟨u5, rfl⟩ | ⟨u5, u6, rfl⟩
      · refine go hc 0 (fun K hK => ?_)
        conv => whnf
        refine hK _ _ _ _ _ _ (go hc 12 (fun K hK => ?_))
        conv => whnf
        refine Or.inl ⟨rfl, ixv (k := i + 1) (ia (rfl : nI i = nI i) (rfl : (1 : Int32) = nI 1)) (show i + 1 < L by omega) (by omega), ?_⟩
        rw [ixc (k := i + 1) (ia (rfl : nI i = nI i) (rfl : (1 : Int32) = nI 1)) (by omega)]
        conv => whnf
        refine Or.inl ⟨rfl, ixv (k := i + 2) (ia (rfl : nI i = nI i) (rfl : (2 : Int32) = nI 2)) (show i + 2 < L by omega) (by omega), ?_⟩
        rw [ixc (k := i + 2) (ia (rfl : nI i = nI i) (rfl : (2 : Int32) = nI 2)) (by omega)]
        conv => whnf
        refine ⟨fun c_ => ?_, fun c_ => absurd hv c_⟩
        conv => whnf
        refine hK _ _ _ _ _ _ (go hc 15 (fun K hK => ?_))
        conv => whnf
        refine ⟨Nat.le_of_ble_eq_true rfl, ?_⟩
        conv => whnf
        refine callee hc (L_set (x := xs (i + 1)) (p := false) G hP hr ?_)
        intro W1 o1 h1 hr1 hP1
        conv => whnf
        refine Or.inl ⟨rfl, ixv (k := i + 1) (ia (rfl : nI i = nI i) (rfl : (1 : Int32) = nI 1)) (show i + 1 < L by omega) (by omega), ?_⟩
        rw [ixc (k := i + 1) (ia (rfl : nI i = nI i) (rfl : (1 : Int32) = nI 1)) (by omega)]
        conv => whnf
        refine Or.inl ⟨rfl, ixv (k := i + 2) (ia (rfl : nI i = nI i) (rfl : (2 : Int32) = nI 2)) (show i + 2 < L by omega) (by omega), ?_⟩
        rw [ixc (k := i + 2) (ia (rfl : nI i = nI i) (rfl : (2 : Int32) = nI 2)) (by omega)]
        conv => whnf
        refine ⟨fun c_ => ?_, fun c_ => absurd hv c_⟩
        conv => whnf
        refine hK _ _ _ _ _ _ (go hc 6 (fun K hK => ?_))
        conv => whnf
        obtain ⟨D, hm, back⟩ := hr1.model
        refine ⟨_, hm.M, Nat.le_of_ble_eq_true rfl, ?_⟩
        conv => whnf
        refine callee hc (e_set hm rz (x := xs (i + 1)) (p := false) G.2.2.2.1.1 ?_)
        intro m2 h2 hm rz2 c2
        have hr2 := back m2 h2 hm
        conv => whnf
        refine ⟨_, hm.M, Nat.le_of_ble_eq_true rfl, ?_⟩
        conv => whnf
        refine callee hc (e_thrown hm ?_)
        rw [mF_of c2]
        conv => whnf
        refine ⟨fun c_ => ?_, fun c_ => absurd rfl c_⟩
        conv => whnf
        refine hK _ _ _ _ _ _ (go hc 3 (fun K hK => ?_))
        conv => whnf
        exact hK _ _ _ _ _ _ (by rw [i5]; exact next _ _ _ _ _ _ _ _ (Or.inr (Or.inl ⟨_, rfl⟩)) hP1 rz2 hr2 (subl rfl) (subs rfl))
      · refine go hc 0 (fun K hK => ?_)
        conv => whnf
        refine hK _ _ _ _ _ _ (go hc 12 (fun K hK => ?_))
        conv => whnf
        refine Or.inl ⟨rfl, ixv (k := i + 1) (ia (rfl : nI i = nI i) (rfl : (1 : Int32) = nI 1)) (show i + 1 < L by omega) (by omega), ?_⟩
        rw [ixc (k := i + 1) (ia (rfl : nI i = nI i) (rfl : (1 : Int32) = nI 1)) (by omega)]
        conv => whnf
        refine Or.inl ⟨rfl, ixv (k := i + 2) (ia (rfl : nI i = nI i) (rfl : (2 : Int32) = nI 2)) (show i + 2 < L by omega) (by omega), ?_⟩
        rw [ixc (k := i + 2) (ia (rfl : nI i = nI i) (rfl : (2 : Int32) = nI 2)) (by omega)]
        conv => whnf
        refine ⟨fun c_ => ?_, fun c_ => absurd hv c_⟩
        conv => whnf
        refine hK _ _ _ _ _ _ (go hc 15 (fun K hK => ?_))
        conv => whnf
        refine ⟨Nat.le_of_ble_eq_true rfl, ?_⟩
        conv => whnf
        refine callee hc (L_set (x := xs (i + 1)) (p := false) G hP hr ?_)
        intro W1 o1 h1 hr1 hP1
        conv => whnf
        refine Or.inl ⟨rfl, ixv (k := i + 1) (ia (rfl : nI i = nI i) (rfl : (1 : Int32) = nI 1)) (show i + 1 < L by omega) (by omega), ?_⟩
        rw [ixc (k := i + 1) (ia (rfl : nI i = nI i) (rfl : (1 : Int32) = nI 1)) (by omega)]
        conv => whnf
        refine Or.inl ⟨rfl, ixv (k := i + 2) (ia (rfl : nI i = nI i) (rfl : (2 : Int32) = nI 2)) (show i + 2 < L by omega) (by omega), ?_⟩
        rw [ixc (k := i + 2) (ia (rfl : nI i = nI i) (rfl : (2 : Int32) = nI 2)) (by omega)]
        conv => whnf
        refine ⟨fun c_ => ?_, fun c_ => absurd hv c_⟩
        conv => whnf
        refine hK _ _ _ _ _ _ (go hc 6 (fun K hK => ?_))
        conv => whnf
        obtain ⟨D, hm, back⟩ := hr1.model
        refine ⟨_, hm.M, Nat.le_of_ble_eq_true rfl, ?_⟩
        conv => whnf
        refine callee hc (e_set hm rz (x := xs (i + 1)) (p := false) G.2.2.2.1.1 ?_)
        intro m2 h2 hm rz2 c2
        have hr2 := back m2 h2 hm
        conv => whnf
        refine ⟨_, hm.M, Nat.le_of_ble_eq_true rfl, ?_⟩
        conv => whnf
        refine callee hc (e_thrown hm ?_)
        rw [mF_of c2]
        conv => whnf
        refine ⟨fun c_ => ?_, fun c_ => absurd rfl c_⟩
        conv => whnf
        refine hK _ _ _ _ _ _ (go hc 3 (fun K hK => ?_))
        conv => whnf
        exact hK _ _ _ _ _ _ (by rw [i5]; exact next _ _ _ _ _ _ _ _ (Or.inr (Or.inl ⟨_, rfl⟩)) hP1 rz2 hr2 (subl rfl) (subs rfl))
      · refine go hc 0 (fun K hK => ?_)
        conv => whnf
        refine hK _ _ _ _ _ _ (go hc 12 (fun K hK => ?_))
        conv => whnf
        refine Or.inl ⟨rfl, ixv (k := i + 1) (ia (rfl : nI i = nI i) (rfl : (1 : Int32) = nI 1)) (show i + 1 < L by omega) (by omega), ?_⟩
        rw [ixc (k := i + 1) (ia (rfl : nI i = nI i) (rfl : (1 : Int32) = nI 1)) (by omega)]
        conv => whnf
        refine Or.inl ⟨rfl, ixv (k := i + 2) (ia (rfl : nI i = nI i) (rfl : (2 : Int32) = nI 2)) (show i + 2 < L by omega) (by omega), ?_⟩
        rw [ixc (k := i + 2) (ia (rfl : nI i = nI i) (rfl : (2 : Int32) = nI 2)) (by omega)]
        conv => whnf
        refine ⟨fun c_ => ?_, fun c_ => absurd hv c_⟩
        conv => whnf
        refine hK _ _ _ _ _ _ (go hc 15 (fun K hK => ?_))
        conv => whnf
        refine ⟨Nat.le_of_ble_eq_true rfl, ?_⟩
        conv => whnf
        refine callee hc (L_set (x := xs (i + 1)) (p := false) G hP hr ?_)
        intro W1 o1 h1 hr1 hP1
        conv => whnf
        refine Or.inl ⟨rfl, ixv (k := i + 1) (ia (rfl : nI i = nI i) (rfl : (1 : Int32) = nI 1)) (show i + 1 < L by omega) (by omega), ?_⟩
        rw [ixc (k := i + 1) (ia (rfl : nI i = nI i) (rfl : (1 : Int32) = nI 1)) (by omega)]
        conv => whnf
        refine Or.inl ⟨rfl, ixv (k := i + 2) (ia (rfl : nI i = nI i) (rfl : (2 : Int32) = nI 2)) (show i + 2 < L by omega) (by omega), ?_⟩
        rw [ixc (k := i + 2) (ia (rfl : nI i = nI i) (rfl : (2 : Int32) = nI 2)) (by omega)]
        conv => whnf
        refine ⟨fun c_ => ?_, fun c_ => absurd hv c_⟩
        conv => whnf
        refine hK _ _ _ _ _ _ (go hc 6 (fun K hK => ?_))
        conv => whnf
        obtain ⟨D, hm, back⟩ := hr1.model
        refine ⟨_, hm.M, Nat.le_of_ble_eq_true rfl, ?_⟩
        conv => whnf
        refine callee hc (e_set hm rz (x := xs (i + 1)) (p := false) G.2.2.2.1.1 ?_)
        intro m2 h2 hm rz2 c2
        have hr2 := back m2 h2 hm
        conv => whnf
        refine ⟨_, hm.M, Nat.le_of_ble_eq_true rfl, ?_⟩
        conv => whnf
        refine callee hc (e_thrown hm ?_)
        rw [mF_of c2]
        conv => whnf
        refine ⟨fun c_ => ?_, fun c_ => absurd rfl c_⟩
        conv => whnf
        refine hK _ _ _ _ _ _ (go hc 3 (fun K hK => ?_))
        conv => whnf
        exact hK _ _ _ _ _ _ (by rw [i5]; exact next _ _ _ _ _ _ _ _ (Or.inr (Or.inr ⟨_, _, rfl⟩)) hP1 rz2 hr2 (subl rfl) (subs rfl))
    | true =>
      have hv := hp.2 rfl
      rcases hex with rfl | ⟨u5, rfl⟩ | ⟨u5, u6, rfl⟩
      · refine go hc 0 (fun K hK => ?_)
        conv => whnf
        refine hK _ _ _ _ _ _ (go hc 12 (fun K hK => ?_))
        conv => whnf
        refine Or.inl ⟨rfl, ixv (k := i + 1) (ia (rfl : nI i = nI i) (rfl : (1 : Int32) = nI 1)) (show i + 1 < L by omega) (by omega), ?_⟩
        rw [ixc (k := i + 1) (ia (rfl : nI i = nI i) (rfl : (1 : Int32) = nI 1)) (by omega)]
        conv => whnf
        refine Or.inl ⟨rfl, ixv (k := i + 2) (ia (rfl : nI i = nI i) (rfl : (2 : Int32) = nI 2)) (show i + 2 < L by omega) (by omega), ?_⟩
        rw [ixc (k := i + 2) (ia (rfl : nI i = nI i) (rfl : (2 : Int32) = nI 2)) (by omega)]
        conv => whnf
        refine ⟨fun c_ => absurd c_ hv, fun c_ => ?_⟩
        conv => whnf
        refine hK _ _ _ _ _ _ (go hc 16 (fun K hK => ?_))
        conv => whnf
        refine ⟨Nat.le_of_ble_eq_true rfl, ?_⟩
        conv => whnf
        refine callee hc (L_set (x := xs (i + 1)) (p := true) G hP hr ?_)
        intro W1 o1 h1 hr1 hP1
        conv => whnf
        refine Or.inl ⟨rfl, ixv (k := i + 1) (ia (rfl : nI i = nI i) (rfl : (1 : Int32) = nI 1)) (show i + 1 < L by omega) (by omega), ?_⟩
        rw [ixc (k := i + 1) (ia (rfl : nI i = nI i) (rfl : (1 : Int32) = nI 1)) (by omega)]
        conv => whnf
        refine Or.inl ⟨rfl, ixv (k := i + 2) (ia (rfl : nI i = nI i) (rfl : (2 : Int32) = nI 2)) (show i + 2 < L by omega) (by omega), ?_⟩
        rw [ixc (k := i + 2) (ia (rfl : nI i = nI i) (rfl : (2 : Int32) = nI 2)) (by omega)]
        conv => whnf
        refine ⟨fun c_ => absurd c_ hv, fun c_ => ?_⟩
        conv => whnf
        refine hK _ _ _ _ _ _ (go hc 7 (fun K hK => ?_))
        conv => whnf
        obtain ⟨D, hm, back⟩ := hr1.model
        refine ⟨_, hm.M, Nat.le_of_ble_eq_true rfl, ?_⟩
        conv => whnf
        refine callee hc (e_set hm rz (x := xs (i + 1)) (p := true) G.2.2.2.1.1 ?_)
        intro m2 h2 hm rz2 c2
        have hr2 := back m2 h2 hm
        conv => whnf
        refine ⟨_, hm.M, Nat.le_of_ble_eq_true rfl, ?_⟩
        conv => whnf
        refine callee hc (e_thrown hm ?_)
        rw [mF_of c2]
        conv => whnf
        refine ⟨fun c_ => ?_, fun c_ => absurd rfl c_⟩
        conv => whnf
        refine hK _ _ _ _ _ _ (go hc 3 (fun K hK => ?_))
        conv => whnf
        exact hK _ _ _ _ _ _ (by rw [i5]; exact next _ _ _ _ _ _ _ _ (Or.inr (Or.inl ⟨_, rfl⟩)) hP1 rz2 hr2 (subl rfl) (subs rfl))
      · refine go hc 0 (fun K hK => ?_)
        conv => whnf
        refine hK _ _ _ _ _ _ (go hc 12 (fun K hK => ?_))
        conv => whnf
        refine Or.inl ⟨rfl, ixv (k := i + 1) (ia (rfl : nI i = nI i) (rfl : (1 : Int32) = nI 1)) (show i + 1 < L by omega) (by omega), ?_⟩
        rw [ixc (k := i + 1) (ia (rfl : nI i = nI i) (rfl : (1 : Int32) = nI 1)) (by omega)]
        conv => whnf
        refine Or.inl ⟨rfl, ixv (k := i + 2) (ia (rfl : nI i = nI i) (rfl : (2 : Int32) = nI 2)) (show i + 2 < L by omega) (by omega), ?_⟩
        rw [ixc (k := i + 2) (ia (rfl : nI i = nI i) (rfl : (2 : Int32) = nI 2)) (by omega)]
        conv => whnf
        refine ⟨fun c_ => absurd c_ hv, fun c_ => ?_⟩
        conv => whnf
        refine hK _ _ _ _ _ _ (go hc 16 (fun K hK => ?_))
        conv => whnf
        refine ⟨Nat.le_of_ble_eq_true rfl, ?_⟩
        conv => whnf
        refine callee hc (L_set (x := xs (i + 1)) (p := true) G hP hr ?_)
        intro W1 o1 h1 hr1 hP1
        conv => whnf
        refine Or.inl ⟨rfl, ixv (k := i + 1) (ia (rfl : nI i = nI i) (rfl : (1 : Int32) = nI 1)) (show i + 1 < L by omega) (by omega), ?_⟩
        rw [ixc (k := i + 1) (ia (rfl : nI i = nI i) (rfl : (1 : Int32) = nI 1)) (by omega)]
        conv => whnf
        refine Or.inl ⟨rfl, ixv (k := i + 2) (ia (rfl : nI i = nI i) (rfl : (2 : Int32) = nI 2)) (show i + 2 < L by omega) (by omega), ?_⟩
        rw [ixc (k := i + 2) (ia (rfl : nI i = nI i) (rfl : (2 : Int32) = nI 2)) (by omega)]
        conv => whnf
        refine ⟨fun c_ => absurd c_ hv, fun c_ => ?_⟩
        conv => whnf
        refine hK _ _ _ _ _ _ (go hc 7 (fun K hK => ?_))
        conv => whnf
        obtain ⟨D, hm, back⟩ := hr1.model
        refine ⟨_, hm.M, Nat.le_of_ble_eq_true rfl, ?_⟩
        conv => whnf
        refine callee hc (e_set hm rz (x := xs (i + 1)) (p := true) G.2.2.2.1.1 ?_)
        intro m2 h2 hm rz2 c2
        have hr2 := back m2 h2 hm
        conv => whnf
        refine ⟨_, hm.M, Nat.le_of_ble_eq_true rfl, ?_⟩
        conv => whnf
        refine callee hc (e_thrown hm ?_)
        rw [mF_of c2]
        conv => whnf
        refine ⟨fun c_ => ?_, fun c_ => absurd rfl c_⟩
        conv => whnf
        refine hK _ _ _ _ _ _ (go hc 3 (fun K hK => ?_))
        conv => whnf
        exact hK _ _ _ _ _ _ (by rw [i5]; exact next _ _ _ _ _ _ _ _ (Or.inr (Or.inl ⟨_, rfl⟩)) hP1 rz2 hr2 (subl rfl) (subs rfl))
      · refine go hc 0 (fun K hK => ?_)
        conv => whnf
        refine hK _ _ _ _ _ _ (go hc 12 (fun K hK => ?_))
        conv => whnf
        refine Or.inl ⟨rfl, ixv (k := i + 1) (ia (rfl : nI i = nI i) (rfl : (1 : Int32) = nI 1)) (show i + 1 < L by omega) (by omega), ?_⟩
        rw [ixc (k := i + 1) (ia (rfl : nI i = nI i) (rfl : (1 : Int32) = nI 1)) (by omega)]
        conv => whnf
        refine Or.inl ⟨rfl, ixv (k := i + 2) (ia (rfl : nI i = nI i) (rfl : (2 : Int32) = nI 2)) (show i + 2 < L by omega) (by omega), ?_⟩
        rw [ixc (k := i + 2) (ia (rfl : nI i = nI i) (rfl : (2 : Int32) = nI 2)) (by omega)]
        conv => whnf
        refine ⟨fun c_ => absurd c_ hv, fun c_ => ?_⟩
        conv => whnf
        refine hK _ _ _ _ _ _ (go hc 16 (fun K hK => ?_))
        conv => whnf
        refine ⟨Nat.le_of_ble_eq_true rfl, ?_⟩
        conv => whnf
        refine callee hc (L_set (x := xs (i + 1)) (p := true) G hP hr ?_)
        intro W1 o1 h1 hr1 hP1
        conv => whnf
        refine Or.inl ⟨rfl, ixv (k := i + 1) (ia (rfl : nI i = nI i) (rfl : (1 : Int32) = nI 1)) (show i + 1 < L by omega) (by omega), ?_⟩
        rw [ixc (k := i + 1) (ia (rfl : nI i = nI i) (rfl : (1 : Int32) = nI 1)) (by omega)]
        conv => whnf
        refine Or.inl ⟨rfl, ixv (k := i + 2) (ia (rfl : nI i = nI i) (rfl : (2 : Int32) = nI 2)) (show i + 2 < L by omega) (by omega), ?_⟩
        rw [ixc (k := i + 2) (ia (rfl : nI i = nI i) (rfl : (2 : Int32) = nI 2)) (by omega)]
        conv => whnf
        refine ⟨fun c_ => absurd c_ hv, fun c_ => ?_⟩
        conv => whnf
        refine hK _ _ _ _ _ _ (go hc 7 (fun K hK => ?_))
        conv => whnf
        obtain ⟨D, hm, back⟩ := hr1.model
        refine ⟨_, hm.M, Nat.le_of_ble_eq_true rfl, ?_⟩
        conv => whnf
        refine callee hc (e_set hm rz (x := xs (i + 1)) (p := true) G.2.2.2.1.1 ?_)
        intro m2 h2 hm rz2 c2
        have hr2 := back m2 h2 hm
        conv => whnf
        refine ⟨_, hm.M, Nat.le_of_ble_eq_true rfl, ?_⟩
        conv => whnf
        refine callee hc (e_thrown hm ?_)
        rw [mF_of c2]
        conv => whnf
        refine ⟨fun c_ => ?_, fun c_ => absurd rfl c_⟩
        conv => whnf
        refine hK _ _ _ _ _ _ (go hc 3 (fun K hK => ?_))
        conv => whnf
        exact hK _ _ _ _ _ _ (by rw [i5]; exact next _ _ _ _ _ _ _ _ (Or.inr (Or.inr ⟨_, _, rfl⟩)) hP1 rz2 hr2 (subl rfl) (subs rfl))
  by_cases hv : xs (i + 2) = 0
  · exact main false ⟨fun _ => hv, fun q => (by cases q)⟩
  · exact main true ⟨fun q => (by cases q), fun _ => hv⟩
theorem lw_cst {L : Nat} {xs : Nat → Int32} {call : Callee} (hc : call = wpC (L, xs) 11) (hL : L ≤ 320) (G : Good P) {i : Nat} (hi : i + 5 ≤ L) {W : AW} {a : RSt} {m : MM} {o : Nat → Int64} {h : PH} (hP : P W a) (rz : RZ m a) (hr : RepS W (toM m ++ [oA o]) h) {r s : Nat}
    {ex : LV} (hex : Hex ex) (next : ∀ W a m o h rc rs ex, Hex ex → P W a → RZ m a → RepS W (toM m ++ [oA o]) h → r ≤ rc → s ≤ rs → Runs 11 call (L, xs) m_L_law Ql 23 (hdL (i + 5) ex) [] h rc rs) :
    Runs 11 call (L, xs) m_L_law Ql 239 (hdL i ex) [] h (r + 20) (s + 100) := by
  have bb0 := (G.1 W a hP).1
  have main : ∀ p : Bool, ((p = false → xs (i + 2) = 0) ∧ (p = true → ¬ xs (i + 2) = 0)) → Runs 11 call (L, xs) m_L_law Ql 239 (hdL i ex) [] h (r + 20) (s + 100) := by
    intro p hp
    have hcode : (rCst a (xs (i + 1)) p).1 < 2 ^ 31 := by
      unfold rCst
      repeat (first | exact cd_fin _ _ _ _ _ (by decide) | (show 0 < 2 ^ 31; decide) | (show 1 < 2 ^ 31; decide) | (show 2 < 2 ^ 31; decide) | (show 3 < 2 ^ 31; decide) | split)
    cases p with
    | false =>
      have hv := hp.1 rfl
      rcases hex with rfl | ⟨u5, rfl⟩ | ⟨u5, u6, rfl⟩
      · refine go hc 0 (fun K hK => ?_)
        conv => whnf
        refine hK _ _ _ _ _ _ (go hc 12 (fun K hK => ?_))
        conv => whnf
        refine Or.inl ⟨rfl, ixv (k := i + 1) (ia (rfl : nI i = nI i) (rfl : (1 : Int32) = nI 1)) (show i + 1 < L by omega) (by omega), ?_⟩
        rw [ixc (k := i + 1) (ia (rfl : nI i = nI i) (rfl : (1 : Int32) = nI 1)) (by omega)]
        conv => whnf
        refine Or.inl ⟨rfl, ixv (k := i + 2) (ia (rfl : nI i = nI i) (rfl : (2 : Int32) = nI 2)) (show i + 2 < L by omega) (by omega), ?_⟩
        rw [ixc (k := i + 2) (ia (rfl : nI i = nI i) (rfl : (2 : Int32) = nI 2)) (by omega)]
        conv => whnf
        refine ⟨fun c_ => ?_, fun c_ => absurd hv c_⟩
        conv => whnf
        refine hK _ _ _ _ _ _ (go hc 16 (fun K hK => ?_))
        conv => whnf
        refine ⟨Nat.le_of_ble_eq_true rfl, ?_⟩
        conv => whnf
        refine callee hc (L_cst (x := xs (i + 1)) (b := false) G hP hr ?_)
        intro W1 o1 h1 hr1 hP1 ho1
        conv => whnf
        refine Or.inl ⟨rfl, ixv (k := i + 1) (ia (rfl : nI i = nI i) (rfl : (1 : Int32) = nI 1)) (show i + 1 < L by omega) (by omega), ?_⟩
        rw [ixc (k := i + 1) (ia (rfl : nI i = nI i) (rfl : (1 : Int32) = nI 1)) (by omega)]
        conv => whnf
        refine Or.inl ⟨rfl, ixv (k := i + 2) (ia (rfl : nI i = nI i) (rfl : (2 : Int32) = nI 2)) (show i + 2 < L by omega) (by omega), ?_⟩
        rw [ixc (k := i + 2) (ia (rfl : nI i = nI i) (rfl : (2 : Int32) = nI 2)) (by omega)]
        conv => whnf
        refine ⟨fun c_ => ?_, fun c_ => absurd hv c_⟩
        conv => whnf
        refine hK _ _ _ _ _ _ (go hc 7 (fun K hK => ?_))
        conv => whnf
        obtain ⟨D, hm, back⟩ := hr1.model
        refine ⟨_, hm.M, Nat.le_of_ble_eq_true rfl, ?_⟩
        conv => whnf
        refine callee hc (e_constrain hm rz bb0.1 (x := xs (i + 1)) (b := false) (fun q hq ne e3 => ((G.2.2.2.2.1 W a q false hP hq).2.2 e3).1 ne) (fun q hq => (G.2.2.2.2.1 W a q false hP hq).2.1) ?_)
        intro m2 h2 hm rz2 c2
        have hr2 := back m2 h2 hm
        conv => whnf
        refine ⟨_, hm.M, Nat.le_of_ble_eq_true rfl, ?_⟩
        conv => whnf
        refine callee hc (e_thrown hm ?_)
        rw [mF_of c2]
        conv => whnf
        refine ⟨fun c_ => ?_, fun c_ => absurd rfl c_⟩
        conv => whnf
        refine hK _ _ _ _ _ _ (go hc 2 (fun K hK => ?_))
        conv => whnf
        by_cases cz : (rCst a (xs (i + 1)) false).1 = 0
        · rw [cz]
          have ho := ho1 cz
          refine ⟨fun c_ => ?_, fun c_ => absurd rfl c_⟩
          conv => whnf
          refine hK _ _ _ _ _ _ (go hc 7 (fun K hK => ?_))
          conv => whnf
          refine ⟨_, _, hr2.out, vp_in_nI (n := 0) (by omega) (by omega), ?_⟩
          conv => whnf
          refine ⟨fun c_ => ?_, fun c_ => absurd ((lg_cmp_eq _ _).mpr ho) c_⟩
          conv => whnf
          refine hK _ _ _ _ _ _ (go hc 3 (fun K hK => ?_))
          conv => whnf
          exact hK _ _ _ _ _ _ (by rw [i5]; exact next _ _ _ _ _ _ _ _ (Or.inr (Or.inr ⟨_, _, rfl⟩)) hP1 rz2 hr2 (subl rfl) (subs rfl))
        · refine ⟨fun c_ => absurd c_ (nI_ne0 (Nat.pos_of_ne_zero cz) (hcode)), fun c_ => ?_⟩
          conv => whnf
          refine hK _ _ _ _ _ _ (go hc 3 (fun K hK => ?_))
          conv => whnf
          exact hK _ _ _ _ _ _ (by rw [i5]; exact next _ _ _ _ _ _ _ _ (Or.inr (Or.inr ⟨_, _, rfl⟩)) hP1 rz2 hr2 (subl rfl) (subs rfl))
      · refine go hc 0 (fun K hK => ?_)
        conv => whnf
        refine hK _ _ _ _ _ _ (go hc 12 (fun K hK => ?_))
        conv => whnf
        refine Or.inl ⟨rfl, ixv (k := i + 1) (ia (rfl : nI i = nI i) (rfl : (1 : Int32) = nI 1)) (show i + 1 < L by omega) (by omega), ?_⟩
        rw [ixc (k := i + 1) (ia (rfl : nI i = nI i) (rfl : (1 : Int32) = nI 1)) (by omega)]
        conv => whnf
        refine Or.inl ⟨rfl, ixv (k := i + 2) (ia (rfl : nI i = nI i) (rfl : (2 : Int32) = nI 2)) (show i + 2 < L by omega) (by omega), ?_⟩
        rw [ixc (k := i + 2) (ia (rfl : nI i = nI i) (rfl : (2 : Int32) = nI 2)) (by omega)]
        conv => whnf
        refine ⟨fun c_ => ?_, fun c_ => absurd hv c_⟩
        conv => whnf
        refine hK _ _ _ _ _ _ (go hc 16 (fun K hK => ?_))
        conv => whnf
        refine ⟨Nat.le_of_ble_eq_true rfl, ?_⟩
        conv => whnf
        refine callee hc (L_cst (x := xs (i + 1)) (b := false) G hP hr ?_)
        intro W1 o1 h1 hr1 hP1 ho1
        conv => whnf
        refine Or.inl ⟨rfl, ixv (k := i + 1) (ia (rfl : nI i = nI i) (rfl : (1 : Int32) = nI 1)) (show i + 1 < L by omega) (by omega), ?_⟩
        rw [ixc (k := i + 1) (ia (rfl : nI i = nI i) (rfl : (1 : Int32) = nI 1)) (by omega)]
        conv => whnf
        refine Or.inl ⟨rfl, ixv (k := i + 2) (ia (rfl : nI i = nI i) (rfl : (2 : Int32) = nI 2)) (show i + 2 < L by omega) (by omega), ?_⟩
        rw [ixc (k := i + 2) (ia (rfl : nI i = nI i) (rfl : (2 : Int32) = nI 2)) (by omega)]
        conv => whnf
        refine ⟨fun c_ => ?_, fun c_ => absurd hv c_⟩
        conv => whnf
        refine hK _ _ _ _ _ _ (go hc 7 (fun K hK => ?_))
        conv => whnf
        obtain ⟨D, hm, back⟩ := hr1.model
        refine ⟨_, hm.M, Nat.le_of_ble_eq_true rfl, ?_⟩
        conv => whnf
        refine callee hc (e_constrain hm rz bb0.1 (x := xs (i + 1)) (b := false) (fun q hq ne e3 => ((G.2.2.2.2.1 W a q false hP hq).2.2 e3).1 ne) (fun q hq => (G.2.2.2.2.1 W a q false hP hq).2.1) ?_)
        intro m2 h2 hm rz2 c2
        have hr2 := back m2 h2 hm
        conv => whnf
        refine ⟨_, hm.M, Nat.le_of_ble_eq_true rfl, ?_⟩
        conv => whnf
        refine callee hc (e_thrown hm ?_)
        rw [mF_of c2]
        conv => whnf
        refine ⟨fun c_ => ?_, fun c_ => absurd rfl c_⟩
        conv => whnf
        refine hK _ _ _ _ _ _ (go hc 2 (fun K hK => ?_))
        conv => whnf
        by_cases cz : (rCst a (xs (i + 1)) false).1 = 0
        · rw [cz]
          have ho := ho1 cz
          refine ⟨fun c_ => ?_, fun c_ => absurd rfl c_⟩
          conv => whnf
          refine hK _ _ _ _ _ _ (go hc 7 (fun K hK => ?_))
          conv => whnf
          refine ⟨_, _, hr2.out, vp_in_nI (n := 0) (by omega) (by omega), ?_⟩
          conv => whnf
          refine ⟨fun c_ => ?_, fun c_ => absurd ((lg_cmp_eq _ _).mpr ho) c_⟩
          conv => whnf
          refine hK _ _ _ _ _ _ (go hc 3 (fun K hK => ?_))
          conv => whnf
          exact hK _ _ _ _ _ _ (by rw [i5]; exact next _ _ _ _ _ _ _ _ (Or.inr (Or.inr ⟨_, _, rfl⟩)) hP1 rz2 hr2 (subl rfl) (subs rfl))
        · refine ⟨fun c_ => absurd c_ (nI_ne0 (Nat.pos_of_ne_zero cz) (hcode)), fun c_ => ?_⟩
          conv => whnf
          refine hK _ _ _ _ _ _ (go hc 3 (fun K hK => ?_))
          conv => whnf
          exact hK _ _ _ _ _ _ (by rw [i5]; exact next _ _ _ _ _ _ _ _ (Or.inr (Or.inr ⟨_, _, rfl⟩)) hP1 rz2 hr2 (subl rfl) (subs rfl))
      · refine go hc 0 (fun K hK => ?_)
        conv => whnf
        refine hK _ _ _ _ _ _ (go hc 12 (fun K hK => ?_))
        conv => whnf
        refine Or.inl ⟨rfl, ixv (k := i + 1) (ia (rfl : nI i = nI i) (rfl : (1 : Int32) = nI 1)) (show i + 1 < L by omega) (by omega), ?_⟩
        rw [ixc (k := i + 1) (ia (rfl : nI i = nI i) (rfl : (1 : Int32) = nI 1)) (by omega)]
        conv => whnf
        refine Or.inl ⟨rfl, ixv (k := i + 2) (ia (rfl : nI i = nI i) (rfl : (2 : Int32) = nI 2)) (show i + 2 < L by omega) (by omega), ?_⟩
        rw [ixc (k := i + 2) (ia (rfl : nI i = nI i) (rfl : (2 : Int32) = nI 2)) (by omega)]
        conv => whnf
        refine ⟨fun c_ => ?_, fun c_ => absurd hv c_⟩
        conv => whnf
        refine hK _ _ _ _ _ _ (go hc 16 (fun K hK => ?_))
        conv => whnf
        refine ⟨Nat.le_of_ble_eq_true rfl, ?_⟩
        conv => whnf
        refine callee hc (L_cst (x := xs (i + 1)) (b := false) G hP hr ?_)
        intro W1 o1 h1 hr1 hP1 ho1
        conv => whnf
        refine Or.inl ⟨rfl, ixv (k := i + 1) (ia (rfl : nI i = nI i) (rfl : (1 : Int32) = nI 1)) (show i + 1 < L by omega) (by omega), ?_⟩
        rw [ixc (k := i + 1) (ia (rfl : nI i = nI i) (rfl : (1 : Int32) = nI 1)) (by omega)]
        conv => whnf
        refine Or.inl ⟨rfl, ixv (k := i + 2) (ia (rfl : nI i = nI i) (rfl : (2 : Int32) = nI 2)) (show i + 2 < L by omega) (by omega), ?_⟩
        rw [ixc (k := i + 2) (ia (rfl : nI i = nI i) (rfl : (2 : Int32) = nI 2)) (by omega)]
        conv => whnf
        refine ⟨fun c_ => ?_, fun c_ => absurd hv c_⟩
        conv => whnf
        refine hK _ _ _ _ _ _ (go hc 7 (fun K hK => ?_))
        conv => whnf
        obtain ⟨D, hm, back⟩ := hr1.model
        refine ⟨_, hm.M, Nat.le_of_ble_eq_true rfl, ?_⟩
        conv => whnf
        refine callee hc (e_constrain hm rz bb0.1 (x := xs (i + 1)) (b := false) (fun q hq ne e3 => ((G.2.2.2.2.1 W a q false hP hq).2.2 e3).1 ne) (fun q hq => (G.2.2.2.2.1 W a q false hP hq).2.1) ?_)
        intro m2 h2 hm rz2 c2
        have hr2 := back m2 h2 hm
        conv => whnf
        refine ⟨_, hm.M, Nat.le_of_ble_eq_true rfl, ?_⟩
        conv => whnf
        refine callee hc (e_thrown hm ?_)
        rw [mF_of c2]
        conv => whnf
        refine ⟨fun c_ => ?_, fun c_ => absurd rfl c_⟩
        conv => whnf
        refine hK _ _ _ _ _ _ (go hc 2 (fun K hK => ?_))
        conv => whnf
        by_cases cz : (rCst a (xs (i + 1)) false).1 = 0
        · rw [cz]
          have ho := ho1 cz
          refine ⟨fun c_ => ?_, fun c_ => absurd rfl c_⟩
          conv => whnf
          refine hK _ _ _ _ _ _ (go hc 7 (fun K hK => ?_))
          conv => whnf
          refine ⟨_, _, hr2.out, vp_in_nI (n := 0) (by omega) (by omega), ?_⟩
          conv => whnf
          refine ⟨fun c_ => ?_, fun c_ => absurd ((lg_cmp_eq _ _).mpr ho) c_⟩
          conv => whnf
          refine hK _ _ _ _ _ _ (go hc 3 (fun K hK => ?_))
          conv => whnf
          exact hK _ _ _ _ _ _ (by rw [i5]; exact next _ _ _ _ _ _ _ _ (Or.inr (Or.inr ⟨_, _, rfl⟩)) hP1 rz2 hr2 (subl rfl) (subs rfl))
        · refine ⟨fun c_ => absurd c_ (nI_ne0 (Nat.pos_of_ne_zero cz) (hcode)), fun c_ => ?_⟩
          conv => whnf
          refine hK _ _ _ _ _ _ (go hc 3 (fun K hK => ?_))
          conv => whnf
          exact hK _ _ _ _ _ _ (by rw [i5]; exact next _ _ _ _ _ _ _ _ (Or.inr (Or.inr ⟨_, _, rfl⟩)) hP1 rz2 hr2 (subl rfl) (subs rfl))
    | true =>
      have hv := hp.2 rfl
      rcases hex with rfl | ⟨u5, rfl⟩ | ⟨u5, u6, rfl⟩
      · refine go hc 0 (fun K hK => ?_)
        conv => whnf
        refine hK _ _ _ _ _ _ (go hc 12 (fun K hK => ?_))
        conv => whnf
        refine Or.inl ⟨rfl, ixv (k := i + 1) (ia (rfl : nI i = nI i) (rfl : (1 : Int32) = nI 1)) (show i + 1 < L by omega) (by omega), ?_⟩
        rw [ixc (k := i + 1) (ia (rfl : nI i = nI i) (rfl : (1 : Int32) = nI 1)) (by omega)]
        conv => whnf
        refine Or.inl ⟨rfl, ixv (k := i + 2) (ia (rfl : nI i = nI i) (rfl : (2 : Int32) = nI 2)) (show i + 2 < L by omega) (by omega), ?_⟩
        rw [ixc (k := i + 2) (ia (rfl : nI i = nI i) (rfl : (2 : Int32) = nI 2)) (by omega)]
        conv => whnf
        refine ⟨fun c_ => absurd c_ hv, fun c_ => ?_⟩
        conv => whnf
        refine hK _ _ _ _ _ _ (go hc 17 (fun K hK => ?_))
        conv => whnf
        refine ⟨Nat.le_of_ble_eq_true rfl, ?_⟩
        conv => whnf
        refine callee hc (L_cst (x := xs (i + 1)) (b := true) G hP hr ?_)
        intro W1 o1 h1 hr1 hP1 ho1
        conv => whnf
        refine Or.inl ⟨rfl, ixv (k := i + 1) (ia (rfl : nI i = nI i) (rfl : (1 : Int32) = nI 1)) (show i + 1 < L by omega) (by omega), ?_⟩
        rw [ixc (k := i + 1) (ia (rfl : nI i = nI i) (rfl : (1 : Int32) = nI 1)) (by omega)]
        conv => whnf
        refine Or.inl ⟨rfl, ixv (k := i + 2) (ia (rfl : nI i = nI i) (rfl : (2 : Int32) = nI 2)) (show i + 2 < L by omega) (by omega), ?_⟩
        rw [ixc (k := i + 2) (ia (rfl : nI i = nI i) (rfl : (2 : Int32) = nI 2)) (by omega)]
        conv => whnf
        refine ⟨fun c_ => absurd c_ hv, fun c_ => ?_⟩
        conv => whnf
        refine hK _ _ _ _ _ _ (go hc 8 (fun K hK => ?_))
        conv => whnf
        obtain ⟨D, hm, back⟩ := hr1.model
        refine ⟨_, hm.M, Nat.le_of_ble_eq_true rfl, ?_⟩
        conv => whnf
        refine callee hc (e_constrain hm rz bb0.1 (x := xs (i + 1)) (b := true) (fun q hq ne e3 => ((G.2.2.2.2.1 W a q true hP hq).2.2 e3).1 ne) (fun q hq => (G.2.2.2.2.1 W a q true hP hq).2.1) ?_)
        intro m2 h2 hm rz2 c2
        have hr2 := back m2 h2 hm
        conv => whnf
        refine ⟨_, hm.M, Nat.le_of_ble_eq_true rfl, ?_⟩
        conv => whnf
        refine callee hc (e_thrown hm ?_)
        rw [mF_of c2]
        conv => whnf
        refine ⟨fun c_ => ?_, fun c_ => absurd rfl c_⟩
        conv => whnf
        refine hK _ _ _ _ _ _ (go hc 2 (fun K hK => ?_))
        conv => whnf
        by_cases cz : (rCst a (xs (i + 1)) true).1 = 0
        · rw [cz]
          have ho := ho1 cz
          refine ⟨fun c_ => ?_, fun c_ => absurd rfl c_⟩
          conv => whnf
          refine hK _ _ _ _ _ _ (go hc 7 (fun K hK => ?_))
          conv => whnf
          refine ⟨_, _, hr2.out, vp_in_nI (n := 0) (by omega) (by omega), ?_⟩
          conv => whnf
          refine ⟨fun c_ => ?_, fun c_ => absurd ((lg_cmp_eq _ _).mpr ho) c_⟩
          conv => whnf
          refine hK _ _ _ _ _ _ (go hc 3 (fun K hK => ?_))
          conv => whnf
          exact hK _ _ _ _ _ _ (by rw [i5]; exact next _ _ _ _ _ _ _ _ (Or.inr (Or.inr ⟨_, _, rfl⟩)) hP1 rz2 hr2 (subl rfl) (subs rfl))
        · refine ⟨fun c_ => absurd c_ (nI_ne0 (Nat.pos_of_ne_zero cz) (hcode)), fun c_ => ?_⟩
          conv => whnf
          refine hK _ _ _ _ _ _ (go hc 3 (fun K hK => ?_))
          conv => whnf
          exact hK _ _ _ _ _ _ (by rw [i5]; exact next _ _ _ _ _ _ _ _ (Or.inr (Or.inr ⟨_, _, rfl⟩)) hP1 rz2 hr2 (subl rfl) (subs rfl))
      · refine go hc 0 (fun K hK => ?_)
        conv => whnf
        refine hK _ _ _ _ _ _ (go hc 12 (fun K hK => ?_))
        conv => whnf
        refine Or.inl ⟨rfl, ixv (k := i + 1) (ia (rfl : nI i = nI i) (rfl : (1 : Int32) = nI 1)) (show i + 1 < L by omega) (by omega), ?_⟩
        rw [ixc (k := i + 1) (ia (rfl : nI i = nI i) (rfl : (1 : Int32) = nI 1)) (by omega)]
        conv => whnf
        refine Or.inl ⟨rfl, ixv (k := i + 2) (ia (rfl : nI i = nI i) (rfl : (2 : Int32) = nI 2)) (show i + 2 < L by omega) (by omega), ?_⟩
        rw [ixc (k := i + 2) (ia (rfl : nI i = nI i) (rfl : (2 : Int32) = nI 2)) (by omega)]
        conv => whnf
        refine ⟨fun c_ => absurd c_ hv, fun c_ => ?_⟩
        conv => whnf
        refine hK _ _ _ _ _ _ (go hc 17 (fun K hK => ?_))
        conv => whnf
        refine ⟨Nat.le_of_ble_eq_true rfl, ?_⟩
        conv => whnf
        refine callee hc (L_cst (x := xs (i + 1)) (b := true) G hP hr ?_)
        intro W1 o1 h1 hr1 hP1 ho1
        conv => whnf
        refine Or.inl ⟨rfl, ixv (k := i + 1) (ia (rfl : nI i = nI i) (rfl : (1 : Int32) = nI 1)) (show i + 1 < L by omega) (by omega), ?_⟩
        rw [ixc (k := i + 1) (ia (rfl : nI i = nI i) (rfl : (1 : Int32) = nI 1)) (by omega)]
        conv => whnf
        refine Or.inl ⟨rfl, ixv (k := i + 2) (ia (rfl : nI i = nI i) (rfl : (2 : Int32) = nI 2)) (show i + 2 < L by omega) (by omega), ?_⟩
        rw [ixc (k := i + 2) (ia (rfl : nI i = nI i) (rfl : (2 : Int32) = nI 2)) (by omega)]
        conv => whnf
        refine ⟨fun c_ => absurd c_ hv, fun c_ => ?_⟩
        conv => whnf
        refine hK _ _ _ _ _ _ (go hc 8 (fun K hK => ?_))
        conv => whnf
        obtain ⟨D, hm, back⟩ := hr1.model
        refine ⟨_, hm.M, Nat.le_of_ble_eq_true rfl, ?_⟩
        conv => whnf
        refine callee hc (e_constrain hm rz bb0.1 (x := xs (i + 1)) (b := true) (fun q hq ne e3 => ((G.2.2.2.2.1 W a q true hP hq).2.2 e3).1 ne) (fun q hq => (G.2.2.2.2.1 W a q true hP hq).2.1) ?_)
        intro m2 h2 hm rz2 c2
        have hr2 := back m2 h2 hm
        conv => whnf
        refine ⟨_, hm.M, Nat.le_of_ble_eq_true rfl, ?_⟩
        conv => whnf
        refine callee hc (e_thrown hm ?_)
        rw [mF_of c2]
        conv => whnf
        refine ⟨fun c_ => ?_, fun c_ => absurd rfl c_⟩
        conv => whnf
        refine hK _ _ _ _ _ _ (go hc 2 (fun K hK => ?_))
        conv => whnf
        by_cases cz : (rCst a (xs (i + 1)) true).1 = 0
        · rw [cz]
          have ho := ho1 cz
          refine ⟨fun c_ => ?_, fun c_ => absurd rfl c_⟩
          conv => whnf
          refine hK _ _ _ _ _ _ (go hc 7 (fun K hK => ?_))
          conv => whnf
          refine ⟨_, _, hr2.out, vp_in_nI (n := 0) (by omega) (by omega), ?_⟩
          conv => whnf
          refine ⟨fun c_ => ?_, fun c_ => absurd ((lg_cmp_eq _ _).mpr ho) c_⟩
          conv => whnf
          refine hK _ _ _ _ _ _ (go hc 3 (fun K hK => ?_))
          conv => whnf
          exact hK _ _ _ _ _ _ (by rw [i5]; exact next _ _ _ _ _ _ _ _ (Or.inr (Or.inr ⟨_, _, rfl⟩)) hP1 rz2 hr2 (subl rfl) (subs rfl))
        · refine ⟨fun c_ => absurd c_ (nI_ne0 (Nat.pos_of_ne_zero cz) (hcode)), fun c_ => ?_⟩
          conv => whnf
          refine hK _ _ _ _ _ _ (go hc 3 (fun K hK => ?_))
          conv => whnf
          exact hK _ _ _ _ _ _ (by rw [i5]; exact next _ _ _ _ _ _ _ _ (Or.inr (Or.inr ⟨_, _, rfl⟩)) hP1 rz2 hr2 (subl rfl) (subs rfl))
      · refine go hc 0 (fun K hK => ?_)
        conv => whnf
        refine hK _ _ _ _ _ _ (go hc 12 (fun K hK => ?_))
        conv => whnf
        refine Or.inl ⟨rfl, ixv (k := i + 1) (ia (rfl : nI i = nI i) (rfl : (1 : Int32) = nI 1)) (show i + 1 < L by omega) (by omega), ?_⟩
        rw [ixc (k := i + 1) (ia (rfl : nI i = nI i) (rfl : (1 : Int32) = nI 1)) (by omega)]
        conv => whnf
        refine Or.inl ⟨rfl, ixv (k := i + 2) (ia (rfl : nI i = nI i) (rfl : (2 : Int32) = nI 2)) (show i + 2 < L by omega) (by omega), ?_⟩
        rw [ixc (k := i + 2) (ia (rfl : nI i = nI i) (rfl : (2 : Int32) = nI 2)) (by omega)]
        conv => whnf
        refine ⟨fun c_ => absurd c_ hv, fun c_ => ?_⟩
        conv => whnf
        refine hK _ _ _ _ _ _ (go hc 17 (fun K hK => ?_))
        conv => whnf
        refine ⟨Nat.le_of_ble_eq_true rfl, ?_⟩
        conv => whnf
        refine callee hc (L_cst (x := xs (i + 1)) (b := true) G hP hr ?_)
        intro W1 o1 h1 hr1 hP1 ho1
        conv => whnf
        refine Or.inl ⟨rfl, ixv (k := i + 1) (ia (rfl : nI i = nI i) (rfl : (1 : Int32) = nI 1)) (show i + 1 < L by omega) (by omega), ?_⟩
        rw [ixc (k := i + 1) (ia (rfl : nI i = nI i) (rfl : (1 : Int32) = nI 1)) (by omega)]
        conv => whnf
        refine Or.inl ⟨rfl, ixv (k := i + 2) (ia (rfl : nI i = nI i) (rfl : (2 : Int32) = nI 2)) (show i + 2 < L by omega) (by omega), ?_⟩
        rw [ixc (k := i + 2) (ia (rfl : nI i = nI i) (rfl : (2 : Int32) = nI 2)) (by omega)]
        conv => whnf
        refine ⟨fun c_ => absurd c_ hv, fun c_ => ?_⟩
        conv => whnf
        refine hK _ _ _ _ _ _ (go hc 8 (fun K hK => ?_))
        conv => whnf
        obtain ⟨D, hm, back⟩ := hr1.model
        refine ⟨_, hm.M, Nat.le_of_ble_eq_true rfl, ?_⟩
        conv => whnf
        refine callee hc (e_constrain hm rz bb0.1 (x := xs (i + 1)) (b := true) (fun q hq ne e3 => ((G.2.2.2.2.1 W a q true hP hq).2.2 e3).1 ne) (fun q hq => (G.2.2.2.2.1 W a q true hP hq).2.1) ?_)
        intro m2 h2 hm rz2 c2
        have hr2 := back m2 h2 hm
        conv => whnf
        refine ⟨_, hm.M, Nat.le_of_ble_eq_true rfl, ?_⟩
        conv => whnf
        refine callee hc (e_thrown hm ?_)
        rw [mF_of c2]
        conv => whnf
        refine ⟨fun c_ => ?_, fun c_ => absurd rfl c_⟩
        conv => whnf
        refine hK _ _ _ _ _ _ (go hc 2 (fun K hK => ?_))
        conv => whnf
        by_cases cz : (rCst a (xs (i + 1)) true).1 = 0
        · rw [cz]
          have ho := ho1 cz
          refine ⟨fun c_ => ?_, fun c_ => absurd rfl c_⟩
          conv => whnf
          refine hK _ _ _ _ _ _ (go hc 7 (fun K hK => ?_))
          conv => whnf
          refine ⟨_, _, hr2.out, vp_in_nI (n := 0) (by omega) (by omega), ?_⟩
          conv => whnf
          refine ⟨fun c_ => ?_, fun c_ => absurd ((lg_cmp_eq _ _).mpr ho) c_⟩
          conv => whnf
          refine hK _ _ _ _ _ _ (go hc 3 (fun K hK => ?_))
          conv => whnf
          exact hK _ _ _ _ _ _ (by rw [i5]; exact next _ _ _ _ _ _ _ _ (Or.inr (Or.inr ⟨_, _, rfl⟩)) hP1 rz2 hr2 (subl rfl) (subs rfl))
        · refine ⟨fun c_ => absurd c_ (nI_ne0 (Nat.pos_of_ne_zero cz) (hcode)), fun c_ => ?_⟩
          conv => whnf
          refine hK _ _ _ _ _ _ (go hc 3 (fun K hK => ?_))
          conv => whnf
          exact hK _ _ _ _ _ _ (by rw [i5]; exact next _ _ _ _ _ _ _ _ (Or.inr (Or.inr ⟨_, _, rfl⟩)) hP1 rz2 hr2 (subl rfl) (subs rfl))
  by_cases hv : xs (i + 2) = 0
  · exact main false ⟨fun _ => hv, fun q => (by cases q)⟩
  · exact main true ⟨fun q => (by cases q), fun _ => hv⟩
theorem lw_gen {L : Nat} {xs : Nat → Int32} {call : Callee} (hc : call = wpC (L, xs) 11) (hL : L ≤ 320) (G : Good P) {i : Nat} (hi : i + 5 ≤ L) {W : AW} {a : RSt} {m : MM} {o : Nat → Int64} {h : PH} (hP : P W a) (rz : RZ m a) (hr : RepS W (toM m ++ [oA o]) h) {r s : Nat}
    {ex : LV} (hex : Hex ex) (next : ∀ W a m o h rc rs ex, Hex ex → P W a → RZ m a → RepS W (toM m ++ [oA o]) h → r ≤ rc → s ≤ rs → Runs 11 call (L, xs) m_L_law Ql 23 (hdL (i + 5) ex) [] h rc rs) :
    Runs 11 call (L, xs) m_L_law Ql 323 (hdL i ex) [] h (r + 20) (s + 100) := by
  have bb0 := (G.1 W a hP).1
  have main : ∀ p : Bool, ((p = false → xs (i + 2) = 0) ∧ (p = true → ¬ xs (i + 2) = 0)) → Runs 11 call (L, xs) m_L_law Ql 323 (hdL i ex) [] h (r + 20) (s + 100) := by
    intro p hp
    have hcode : (rGen a (xs (i + 1)) p).1 < 2 ^ 31 := by
      unfold rGen
      repeat (first | exact cd_fin _ _ _ _ _ (by decide) | (show 0 < 2 ^ 31; decide) | (show 1 < 2 ^ 31; decide) | (show 2 < 2 ^ 31; decide) | (show 3 < 2 ^ 31; decide) | split)
    cases p with
    | false =>
      have hv := hp.1 rfl
      rcases hex with rfl | ⟨u5, rfl⟩ | ⟨u5, u6, rfl⟩
      · refine go hc 0 (fun K hK => ?_)
        conv => whnf
        refine hK _ _ _ _ _ _ (go hc 12 (fun K hK => ?_))
        conv => whnf
        refine Or.inl ⟨rfl, ixv (k := i + 1) (ia (rfl : nI i = nI i) (rfl : (1 : Int32) = nI 1)) (show i + 1 < L by omega) (by omega), ?_⟩
        rw [ixc (k := i + 1) (ia (rfl : nI i = nI i) (rfl : (1 : Int32) = nI 1)) (by omega)]
        conv => whnf
        refine Or.inl ⟨rfl, ixv (k := i + 2) (ia (rfl : nI i = nI i) (rfl : (2 : Int32) = nI 2)) (show i + 2 < L by omega) (by omega), ?_⟩
        rw [ixc (k := i + 2) (ia (rfl : nI i = nI i) (rfl : (2 : Int32) = nI 2)) (by omega)]
        conv => whnf
        refine ⟨fun c_ => ?_, fun c_ => absurd hv c_⟩
        conv => whnf
        refine hK _ _ _ _ _ _ (go hc 16 (fun K hK => ?_))
        conv => whnf
        refine ⟨Nat.le_of_ble_eq_true rfl, ?_⟩
        conv => whnf
        refine callee hc (L_gen (x := xs (i + 1)) (b := false) G hP hr ?_)
        intro W1 o1 h1 hr1 hP1 ho1
        conv => whnf
        refine Or.inl ⟨rfl, ixv (k := i + 1) (ia (rfl : nI i = nI i) (rfl : (1 : Int32) = nI 1)) (show i + 1 < L by omega) (by omega), ?_⟩
        rw [ixc (k := i + 1) (ia (rfl : nI i = nI i) (rfl : (1 : Int32) = nI 1)) (by omega)]
        conv => whnf
        refine Or.inl ⟨rfl, ixv (k := i + 2) (ia (rfl : nI i = nI i) (rfl : (2 : Int32) = nI 2)) (show i + 2 < L by omega) (by omega), ?_⟩
        rw [ixc (k := i + 2) (ia (rfl : nI i = nI i) (rfl : (2 : Int32) = nI 2)) (by omega)]
        conv => whnf
        refine ⟨fun c_ => ?_, fun c_ => absurd hv c_⟩
        conv => whnf
        refine hK _ _ _ _ _ _ (go hc 7 (fun K hK => ?_))
        conv => whnf
        obtain ⟨D, hm, back⟩ := hr1.model
        refine ⟨_, hm.M, Nat.le_of_ble_eq_true rfl, ?_⟩
        conv => whnf
        refine callee hc (e_generate hm rz bb0.1 (x := xs (i + 1)) (b := false) (fun q hq nb ne => (((G.2.2.2.2.2.1 W a q false hP hq).2.2 nb).2 ne).1) (fun q hq => (G.2.2.2.2.2.1 W a q false hP hq).2.1) ?_)
        intro m2 h2 hm rz2 c2
        have hr2 := back m2 h2 hm
        conv => whnf
        refine ⟨_, hm.M, Nat.le_of_ble_eq_true rfl, ?_⟩
        conv => whnf
        refine callee hc (e_thrown hm ?_)
        rw [mF_of c2]
        conv => whnf
        refine ⟨fun c_ => ?_, fun c_ => absurd rfl c_⟩
        conv => whnf
        refine hK _ _ _ _ _ _ (go hc 2 (fun K hK => ?_))
        conv => whnf
        by_cases cz : (rGen a (xs (i + 1)) false).1 = 0
        · rw [cz]
          have ho := ho1 cz
          refine ⟨fun c_ => ?_, fun c_ => absurd rfl c_⟩
          conv => whnf
          refine hK _ _ _ _ _ _ (go hc 7 (fun K hK => ?_))
          conv => whnf
          refine ⟨_, _, hr2.out, vp_in_nI (n := 0) (by omega) (by omega), ?_⟩
          conv => whnf
          refine ⟨fun c_ => ?_, fun c_ => absurd ((lg_cmp_eq _ _).mpr ho) c_⟩
          conv => whnf
          refine hK _ _ _ _ _ _ (go hc 3 (fun K hK => ?_))
          conv => whnf
          exact hK _ _ _ _ _ _ (by rw [i5]; exact next _ _ _ _ _ _ _ _ (Or.inr (Or.inr ⟨_, _, rfl⟩)) hP1 rz2 hr2 (subl rfl) (subs rfl))
        · refine ⟨fun c_ => absurd c_ (nI_ne0 (Nat.pos_of_ne_zero cz) (hcode)), fun c_ => ?_⟩
          conv => whnf
          refine hK _ _ _ _ _ _ (go hc 3 (fun K hK => ?_))
          conv => whnf
          exact hK _ _ _ _ _ _ (by rw [i5]; exact next _ _ _ _ _ _ _ _ (Or.inr (Or.inr ⟨_, _, rfl⟩)) hP1 rz2 hr2 (subl rfl) (subs rfl))
      · refine go hc 0 (fun K hK => ?_)
        conv => whnf
        refine hK _ _ _ _ _ _ (go hc 12 (fun K hK => ?_))
        conv => whnf
        refine Or.inl ⟨rfl, ixv (k := i + 1) (ia (rfl : nI i = nI i) (rfl : (1 : Int32) = nI 1)) (show i + 1 < L by omega) (by omega), ?_⟩
        rw [ixc (k := i + 1) (ia (rfl : nI i = nI i) (rfl : (1 : Int32) = nI 1)) (by omega)]
        conv => whnf
        refine Or.inl ⟨rfl, ixv (k := i + 2) (ia (rfl : nI i = nI i) (rfl : (2 : Int32) = nI 2)) (show i + 2 < L by omega) (by omega), ?_⟩
        rw [ixc (k := i + 2) (ia (rfl : nI i = nI i) (rfl : (2 : Int32) = nI 2)) (by omega)]
        conv => whnf
        refine ⟨fun c_ => ?_, fun c_ => absurd hv c_⟩
        conv => whnf
        refine hK _ _ _ _ _ _ (go hc 16 (fun K hK => ?_))
        conv => whnf
        refine ⟨Nat.le_of_ble_eq_true rfl, ?_⟩
        conv => whnf
        refine callee hc (L_gen (x := xs (i + 1)) (b := false) G hP hr ?_)
        intro W1 o1 h1 hr1 hP1 ho1
        conv => whnf
        refine Or.inl ⟨rfl, ixv (k := i + 1) (ia (rfl : nI i = nI i) (rfl : (1 : Int32) = nI 1)) (show i + 1 < L by omega) (by omega), ?_⟩
        rw [ixc (k := i + 1) (ia (rfl : nI i = nI i) (rfl : (1 : Int32) = nI 1)) (by omega)]
        conv => whnf
        refine Or.inl ⟨rfl, ixv (k := i + 2) (ia (rfl : nI i = nI i) (rfl : (2 : Int32) = nI 2)) (show i + 2 < L by omega) (by omega), ?_⟩
        rw [ixc (k := i + 2) (ia (rfl : nI i = nI i) (rfl : (2 : Int32) = nI 2)) (by omega)]
        conv => whnf
        refine ⟨fun c_ => ?_, fun c_ => absurd hv c_⟩
        conv => whnf
        refine hK _ _ _ _ _ _ (go hc 7 (fun K hK => ?_))
        conv => whnf
        obtain ⟨D, hm, back⟩ := hr1.model
        refine ⟨_, hm.M, Nat.le_of_ble_eq_true rfl, ?_⟩
        conv => whnf
        refine callee hc (e_generate hm rz bb0.1 (x := xs (i + 1)) (b := false) (fun q hq nb ne => (((G.2.2.2.2.2.1 W a q false hP hq).2.2 nb).2 ne).1) (fun q hq => (G.2.2.2.2.2.1 W a q false hP hq).2.1) ?_)
        intro m2 h2 hm rz2 c2
        have hr2 := back m2 h2 hm
        conv => whnf
        refine ⟨_, hm.M, Nat.le_of_ble_eq_true rfl, ?_⟩
        conv => whnf
        refine callee hc (e_thrown hm ?_)
        rw [mF_of c2]
        conv => whnf
        refine ⟨fun c_ => ?_, fun c_ => absurd rfl c_⟩
        conv => whnf
        refine hK _ _ _ _ _ _ (go hc 2 (fun K hK => ?_))
        conv => whnf
        by_cases cz : (rGen a (xs (i + 1)) false).1 = 0
        · rw [cz]
          have ho := ho1 cz
          refine ⟨fun c_ => ?_, fun c_ => absurd rfl c_⟩
          conv => whnf
          refine hK _ _ _ _ _ _ (go hc 7 (fun K hK => ?_))
          conv => whnf
          refine ⟨_, _, hr2.out, vp_in_nI (n := 0) (by omega) (by omega), ?_⟩
          conv => whnf
          refine ⟨fun c_ => ?_, fun c_ => absurd ((lg_cmp_eq _ _).mpr ho) c_⟩
          conv => whnf
          refine hK _ _ _ _ _ _ (go hc 3 (fun K hK => ?_))
          conv => whnf
          exact hK _ _ _ _ _ _ (by rw [i5]; exact next _ _ _ _ _ _ _ _ (Or.inr (Or.inr ⟨_, _, rfl⟩)) hP1 rz2 hr2 (subl rfl) (subs rfl))
        · refine ⟨fun c_ => absurd c_ (nI_ne0 (Nat.pos_of_ne_zero cz) (hcode)), fun c_ => ?_⟩
          conv => whnf
          refine hK _ _ _ _ _ _ (go hc 3 (fun K hK => ?_))
          conv => whnf
          exact hK _ _ _ _ _ _ (by rw [i5]; exact next _ _ _ _ _ _ _ _ (Or.inr (Or.inr ⟨_, _, rfl⟩)) hP1 rz2 hr2 (subl rfl) (subs rfl))
      · refine go hc 0 (fun K hK => ?_)
        conv => whnf
        refine hK _ _ _ _ _ _ (go hc 12 (fun K hK => ?_))
        conv => whnf
        refine Or.inl ⟨rfl, ixv (k := i + 1) (ia (rfl : nI i = nI i) (rfl : (1 : Int32) = nI 1)) (show i + 1 < L by omega) (by omega), ?_⟩
        rw [ixc (k := i + 1) (ia (rfl : nI i = nI i) (rfl : (1 : Int32) = nI 1)) (by omega)]
        conv => whnf
        refine Or.inl ⟨rfl, ixv (k := i + 2) (ia (rfl : nI i = nI i) (rfl : (2 : Int32) = nI 2)) (show i + 2 < L by omega) (by omega), ?_⟩
        rw [ixc (k := i + 2) (ia (rfl : nI i = nI i) (rfl : (2 : Int32) = nI 2)) (by omega)]
        conv => whnf
        refine ⟨fun c_ => ?_, fun c_ => absurd hv c_⟩
        conv => whnf
        refine hK _ _ _ _ _ _ (go hc 16 (fun K hK => ?_))
        conv => whnf
        refine ⟨Nat.le_of_ble_eq_true rfl, ?_⟩
        conv => whnf
        refine callee hc (L_gen (x := xs (i + 1)) (b := false) G hP hr ?_)
        intro W1 o1 h1 hr1 hP1 ho1
        conv => whnf
        refine Or.inl ⟨rfl, ixv (k := i + 1) (ia (rfl : nI i = nI i) (rfl : (1 : Int32) = nI 1)) (show i + 1 < L by omega) (by omega), ?_⟩
        rw [ixc (k := i + 1) (ia (rfl : nI i = nI i) (rfl : (1 : Int32) = nI 1)) (by omega)]
        conv => whnf
        refine Or.inl ⟨rfl, ixv (k := i + 2) (ia (rfl : nI i = nI i) (rfl : (2 : Int32) = nI 2)) (show i + 2 < L by omega) (by omega), ?_⟩
        rw [ixc (k := i + 2) (ia (rfl : nI i = nI i) (rfl : (2 : Int32) = nI 2)) (by omega)]
        conv => whnf
        refine ⟨fun c_ => ?_, fun c_ => absurd hv c_⟩
        conv => whnf
        refine hK _ _ _ _ _ _ (go hc 7 (fun K hK => ?_))
        conv => whnf
        obtain ⟨D, hm, back⟩ := hr1.model
        refine ⟨_, hm.M, Nat.le_of_ble_eq_true rfl, ?_⟩
        conv => whnf
        refine callee hc (e_generate hm rz bb0.1 (x := xs (i + 1)) (b := false) (fun q hq nb ne => (((G.2.2.2.2.2.1 W a q false hP hq).2.2 nb).2 ne).1) (fun q hq => (G.2.2.2.2.2.1 W a q false hP hq).2.1) ?_)
        intro m2 h2 hm rz2 c2
        have hr2 := back m2 h2 hm
        conv => whnf
        refine ⟨_, hm.M, Nat.le_of_ble_eq_true rfl, ?_⟩
        conv => whnf
        refine callee hc (e_thrown hm ?_)
        rw [mF_of c2]
        conv => whnf
        refine ⟨fun c_ => ?_, fun c_ => absurd rfl c_⟩
        conv => whnf
        refine hK _ _ _ _ _ _ (go hc 2 (fun K hK => ?_))
        conv => whnf
        by_cases cz : (rGen a (xs (i + 1)) false).1 = 0
        · rw [cz]
          have ho := ho1 cz
          refine ⟨fun c_ => ?_, fun c_ => absurd rfl c_⟩
          conv => whnf
          refine hK _ _ _ _ _ _ (go hc 7 (fun K hK => ?_))
          conv => whnf
          refine ⟨_, _, hr2.out, vp_in_nI (n := 0) (by omega) (by omega), ?_⟩
          conv => whnf
          refine ⟨fun c_ => ?_, fun c_ => absurd ((lg_cmp_eq _ _).mpr ho) c_⟩
          conv => whnf
          refine hK _ _ _ _ _ _ (go hc 3 (fun K hK => ?_))
          conv => whnf
          exact hK _ _ _ _ _ _ (by rw [i5]; exact next _ _ _ _ _ _ _ _ (Or.inr (Or.inr ⟨_, _, rfl⟩)) hP1 rz2 hr2 (subl rfl) (subs rfl))
        · refine ⟨fun c_ => absurd c_ (nI_ne0 (Nat.pos_of_ne_zero cz) (hcode)), fun c_ => ?_⟩
          conv => whnf
          refine hK _ _ _ _ _ _ (go hc 3 (fun K hK => ?_))
          conv => whnf
          exact hK _ _ _ _ _ _ (by rw [i5]; exact next _ _ _ _ _ _ _ _ (Or.inr (Or.inr ⟨_, _, rfl⟩)) hP1 rz2 hr2 (subl rfl) (subs rfl))
    | true =>
      have hv := hp.2 rfl
      rcases hex with rfl | ⟨u5, rfl⟩ | ⟨u5, u6, rfl⟩
      · refine go hc 0 (fun K hK => ?_)
        conv => whnf
        refine hK _ _ _ _ _ _ (go hc 12 (fun K hK => ?_))
        conv => whnf
        refine Or.inl ⟨rfl, ixv (k := i + 1) (ia (rfl : nI i = nI i) (rfl : (1 : Int32) = nI 1)) (show i + 1 < L by omega) (by omega), ?_⟩
        rw [ixc (k := i + 1) (ia (rfl : nI i = nI i) (rfl : (1 : Int32) = nI 1)) (by omega)]
        conv => whnf
        refine Or.inl ⟨rfl, ixv (k := i + 2) (ia (rfl : nI i = nI i) (rfl : (2 : Int32) = nI 2)) (show i + 2 < L by omega) (by omega), ?_⟩
        rw [ixc (k := i + 2) (ia (rfl : nI i = nI i) (rfl : (2 : Int32) = nI 2)) (by omega)]
        conv => whnf
        refine ⟨fun c_ => absurd c_ hv, fun c_ => ?_⟩
        conv => whnf
        refine hK _ _ _ _ _ _ (go hc 17 (fun K hK => ?_))
        conv => whnf
        refine ⟨Nat.le_of_ble_eq_true rfl, ?_⟩
        conv => whnf
        refine callee hc (L_gen (x := xs (i + 1)) (b := true) G hP hr ?_)
        intro W1 o1 h1 hr1 hP1 ho1
        conv => whnf
        refine Or.inl ⟨rfl, ixv (k := i + 1) (ia (rfl : nI i = nI i) (rfl : (1 : Int32) = nI 1)) (show i + 1 < L by omega) (by omega), ?_⟩
        rw [ixc (k := i + 1) (ia (rfl : nI i = nI i) (rfl : (1 : Int32) = nI 1)) (by omega)]
        conv => whnf
        refine Or.inl ⟨rfl, ixv (k := i + 2) (ia (rfl : nI i = nI i) (rfl : (2 : Int32) = nI 2)) (show i + 2 < L by omega) (by omega), ?_⟩
        rw [ixc (k := i + 2) (ia (rfl : nI i = nI i) (rfl : (2 : Int32) = nI 2)) (by omega)]
        conv => whnf
        refine ⟨fun c_ => absurd c_ hv, fun c_ => ?_⟩
        conv => whnf
        refine hK _ _ _ _ _ _ (go hc 8 (fun K hK => ?_))
        conv => whnf
        obtain ⟨D, hm, back⟩ := hr1.model
        refine ⟨_, hm.M, Nat.le_of_ble_eq_true rfl, ?_⟩
        conv => whnf
        refine callee hc (e_generate hm rz bb0.1 (x := xs (i + 1)) (b := true) (fun q hq nb ne => (((G.2.2.2.2.2.1 W a q true hP hq).2.2 nb).2 ne).1) (fun q hq => (G.2.2.2.2.2.1 W a q true hP hq).2.1) ?_)
        intro m2 h2 hm rz2 c2
        have hr2 := back m2 h2 hm
        conv => whnf
        refine ⟨_, hm.M, Nat.le_of_ble_eq_true rfl, ?_⟩
        conv => whnf
        refine callee hc (e_thrown hm ?_)
        rw [mF_of c2]
        conv => whnf
        refine ⟨fun c_ => ?_, fun c_ => absurd rfl c_⟩
        conv => whnf
        refine hK _ _ _ _ _ _ (go hc 2 (fun K hK => ?_))
        conv => whnf
        by_cases cz : (rGen a (xs (i + 1)) true).1 = 0
        · rw [cz]
          have ho := ho1 cz
          refine ⟨fun c_ => ?_, fun c_ => absurd rfl c_⟩
          conv => whnf
          refine hK _ _ _ _ _ _ (go hc 7 (fun K hK => ?_))
          conv => whnf
          refine ⟨_, _, hr2.out, vp_in_nI (n := 0) (by omega) (by omega), ?_⟩
          conv => whnf
          refine ⟨fun c_ => ?_, fun c_ => absurd ((lg_cmp_eq _ _).mpr ho) c_⟩
          conv => whnf
          refine hK _ _ _ _ _ _ (go hc 3 (fun K hK => ?_))
          conv => whnf
          exact hK _ _ _ _ _ _ (by rw [i5]; exact next _ _ _ _ _ _ _ _ (Or.inr (Or.inr ⟨_, _, rfl⟩)) hP1 rz2 hr2 (subl rfl) (subs rfl))
        · refine ⟨fun c_ => absurd c_ (nI_ne0 (Nat.pos_of_ne_zero cz) (hcode)), fun c_ => ?_⟩
          conv => whnf
          refine hK _ _ _ _ _ _ (go hc 3 (fun K hK => ?_))
          conv => whnf
          exact hK _ _ _ _ _ _ (by rw [i5]; exact next _ _ _ _ _ _ _ _ (Or.inr (Or.inr ⟨_, _, rfl⟩)) hP1 rz2 hr2 (subl rfl) (subs rfl))
      · refine go hc 0 (fun K hK => ?_)
        conv => whnf
        refine hK _ _ _ _ _ _ (go hc 12 (fun K hK => ?_))
        conv => whnf
        refine Or.inl ⟨rfl, ixv (k := i + 1) (ia (rfl : nI i = nI i) (rfl : (1 : Int32) = nI 1)) (show i + 1 < L by omega) (by omega), ?_⟩
        rw [ixc (k := i + 1) (ia (rfl : nI i = nI i) (rfl : (1 : Int32) = nI 1)) (by omega)]
        conv => whnf
        refine Or.inl ⟨rfl, ixv (k := i + 2) (ia (rfl : nI i = nI i) (rfl : (2 : Int32) = nI 2)) (show i + 2 < L by omega) (by omega), ?_⟩
        rw [ixc (k := i + 2) (ia (rfl : nI i = nI i) (rfl : (2 : Int32) = nI 2)) (by omega)]
        conv => whnf
        refine ⟨fun c_ => absurd c_ hv, fun c_ => ?_⟩
        conv => whnf
        refine hK _ _ _ _ _ _ (go hc 17 (fun K hK => ?_))
        conv => whnf
        refine ⟨Nat.le_of_ble_eq_true rfl, ?_⟩
        conv => whnf
        refine callee hc (L_gen (x := xs (i + 1)) (b := true) G hP hr ?_)
        intro W1 o1 h1 hr1 hP1 ho1
        conv => whnf
        refine Or.inl ⟨rfl, ixv (k := i + 1) (ia (rfl : nI i = nI i) (rfl : (1 : Int32) = nI 1)) (show i + 1 < L by omega) (by omega), ?_⟩
        rw [ixc (k := i + 1) (ia (rfl : nI i = nI i) (rfl : (1 : Int32) = nI 1)) (by omega)]
        conv => whnf
        refine Or.inl ⟨rfl, ixv (k := i + 2) (ia (rfl : nI i = nI i) (rfl : (2 : Int32) = nI 2)) (show i + 2 < L by omega) (by omega), ?_⟩
        rw [ixc (k := i + 2) (ia (rfl : nI i = nI i) (rfl : (2 : Int32) = nI 2)) (by omega)]
        conv => whnf
        refine ⟨fun c_ => absurd c_ hv, fun c_ => ?_⟩
        conv => whnf
        refine hK _ _ _ _ _ _ (go hc 8 (fun K hK => ?_))
        conv => whnf
        obtain ⟨D, hm, back⟩ := hr1.model
        refine ⟨_, hm.M, Nat.le_of_ble_eq_true rfl, ?_⟩
        conv => whnf
        refine callee hc (e_generate hm rz bb0.1 (x := xs (i + 1)) (b := true) (fun q hq nb ne => (((G.2.2.2.2.2.1 W a q true hP hq).2.2 nb).2 ne).1) (fun q hq => (G.2.2.2.2.2.1 W a q true hP hq).2.1) ?_)
        intro m2 h2 hm rz2 c2
        have hr2 := back m2 h2 hm
        conv => whnf
        refine ⟨_, hm.M, Nat.le_of_ble_eq_true rfl, ?_⟩
        conv => whnf
        refine callee hc (e_thrown hm ?_)
        rw [mF_of c2]
        conv => whnf
        refine ⟨fun c_ => ?_, fun c_ => absurd rfl c_⟩
        conv => whnf
        refine hK _ _ _ _ _ _ (go hc 2 (fun K hK => ?_))
        conv => whnf
        by_cases cz : (rGen a (xs (i + 1)) true).1 = 0
        · rw [cz]
          have ho := ho1 cz
          refine ⟨fun c_ => ?_, fun c_ => absurd rfl c_⟩
          conv => whnf
          refine hK _ _ _ _ _ _ (go hc 7 (fun K hK => ?_))
          conv => whnf
          refine ⟨_, _, hr2.out, vp_in_nI (n := 0) (by omega) (by omega), ?_⟩
          conv => whnf
          refine ⟨fun c_ => ?_, fun c_ => absurd ((lg_cmp_eq _ _).mpr ho) c_⟩
          conv => whnf
          refine hK _ _ _ _ _ _ (go hc 3 (fun K hK => ?_))
          conv => whnf
          exact hK _ _ _ _ _ _ (by rw [i5]; exact next _ _ _ _ _ _ _ _ (Or.inr (Or.inr ⟨_, _, rfl⟩)) hP1 rz2 hr2 (subl rfl) (subs rfl))
        · refine ⟨fun c_ => absurd c_ (nI_ne0 (Nat.pos_of_ne_zero cz) (hcode)), fun c_ => ?_⟩
          conv => whnf
          refine hK _ _ _ _ _ _ (go hc 3 (fun K hK => ?_))
          conv => whnf
          exact hK _ _ _ _ _ _ (by rw [i5]; exact next _ _ _ _ _ _ _ _ (Or.inr (Or.inr ⟨_, _, rfl⟩)) hP1 rz2 hr2 (subl rfl) (subs rfl))
      · refine go hc 0 (fun K hK => ?_)
        conv => whnf
        refine hK _ _ _ _ _ _ (go hc 12 (fun K hK => ?_))
        conv => whnf
        refine Or.inl ⟨rfl, ixv (k := i + 1) (ia (rfl : nI i = nI i) (rfl : (1 : Int32) = nI 1)) (show i + 1 < L by omega) (by omega), ?_⟩
        rw [ixc (k := i + 1) (ia (rfl : nI i = nI i) (rfl : (1 : Int32) = nI 1)) (by omega)]
        conv => whnf
        refine Or.inl ⟨rfl, ixv (k := i + 2) (ia (rfl : nI i = nI i) (rfl : (2 : Int32) = nI 2)) (show i + 2 < L by omega) (by omega), ?_⟩
        rw [ixc (k := i + 2) (ia (rfl : nI i = nI i) (rfl : (2 : Int32) = nI 2)) (by omega)]
        conv => whnf
        refine ⟨fun c_ => absurd c_ hv, fun c_ => ?_⟩
        conv => whnf
        refine hK _ _ _ _ _ _ (go hc 17 (fun K hK => ?_))
        conv => whnf
        refine ⟨Nat.le_of_ble_eq_true rfl, ?_⟩
        conv => whnf
        refine callee hc (L_gen (x := xs (i + 1)) (b := true) G hP hr ?_)
        intro W1 o1 h1 hr1 hP1 ho1
        conv => whnf
        refine Or.inl ⟨rfl, ixv (k := i + 1) (ia (rfl : nI i = nI i) (rfl : (1 : Int32) = nI 1)) (show i + 1 < L by omega) (by omega), ?_⟩
        rw [ixc (k := i + 1) (ia (rfl : nI i = nI i) (rfl : (1 : Int32) = nI 1)) (by omega)]
        conv => whnf
        refine Or.inl ⟨rfl, ixv (k := i + 2) (ia (rfl : nI i = nI i) (rfl : (2 : Int32) = nI 2)) (show i + 2 < L by omega) (by omega), ?_⟩
        rw [ixc (k := i + 2) (ia (rfl : nI i = nI i) (rfl : (2 : Int32) = nI 2)) (by omega)]
        conv => whnf
        refine ⟨fun c_ => absurd c_ hv, fun c_ => ?_⟩
        conv => whnf
        refine hK _ _ _ _ _ _ (go hc 8 (fun K hK => ?_))
        conv => whnf
        obtain ⟨D, hm, back⟩ := hr1.model
        refine ⟨_, hm.M, Nat.le_of_ble_eq_true rfl, ?_⟩
        conv => whnf
        refine callee hc (e_generate hm rz bb0.1 (x := xs (i + 1)) (b := true) (fun q hq nb ne => (((G.2.2.2.2.2.1 W a q true hP hq).2.2 nb).2 ne).1) (fun q hq => (G.2.2.2.2.2.1 W a q true hP hq).2.1) ?_)
        intro m2 h2 hm rz2 c2
        have hr2 := back m2 h2 hm
        conv => whnf
        refine ⟨_, hm.M, Nat.le_of_ble_eq_true rfl, ?_⟩
        conv => whnf
        refine callee hc (e_thrown hm ?_)
        rw [mF_of c2]
        conv => whnf
        refine ⟨fun c_ => ?_, fun c_ => absurd rfl c_⟩
        conv => whnf
        refine hK _ _ _ _ _ _ (go hc 2 (fun K hK => ?_))
        conv => whnf
        by_cases cz : (rGen a (xs (i + 1)) true).1 = 0
        · rw [cz]
          have ho := ho1 cz
          refine ⟨fun c_ => ?_, fun c_ => absurd rfl c_⟩
          conv => whnf
          refine hK _ _ _ _ _ _ (go hc 7 (fun K hK => ?_))
          conv => whnf
          refine ⟨_, _, hr2.out, vp_in_nI (n := 0) (by omega) (by omega), ?_⟩
          conv => whnf
          refine ⟨fun c_ => ?_, fun c_ => absurd ((lg_cmp_eq _ _).mpr ho) c_⟩
          conv => whnf
          refine hK _ _ _ _ _ _ (go hc 3 (fun K hK => ?_))
          conv => whnf
          exact hK _ _ _ _ _ _ (by rw [i5]; exact next _ _ _ _ _ _ _ _ (Or.inr (Or.inr ⟨_, _, rfl⟩)) hP1 rz2 hr2 (subl rfl) (subs rfl))
        · refine ⟨fun c_ => absurd c_ (nI_ne0 (Nat.pos_of_ne_zero cz) (hcode)), fun c_ => ?_⟩
          conv => whnf
          refine hK _ _ _ _ _ _ (go hc 3 (fun K hK => ?_))
          conv => whnf
          exact hK _ _ _ _ _ _ (by rw [i5]; exact next _ _ _ _ _ _ _ _ (Or.inr (Or.inr ⟨_, _, rfl⟩)) hP1 rz2 hr2 (subl rfl) (subs rfl))
  by_cases hv : xs (i + 2) = 0
  · exact main false ⟨fun _ => hv, fun q => (by cases q)⟩
  · exact main true ⟨fun q => (by cases q), fun _ => hv⟩
theorem lw_cmb {L : Nat} {xs : Nat → Int32} {call : Callee} (hc : call = wpC (L, xs) 11) (hL : L ≤ 320) (G : Good P) {i : Nat} (hi : i + 5 ≤ L) {W : AW} {a : RSt} {m : MM} {o : Nat → Int64} {h : PH} (hP : P W a) (rz : RZ m a) (hr : RepS W (toM m ++ [oA o]) h) {r s : Nat}
    {ex : LV} (hex : Hex ex) (next : ∀ W a m o h rc rs ex, Hex ex → P W a → RZ m a → RepS W (toM m ++ [oA o]) h → r ≤ rc → s ≤ rs → Runs 11 call (L, xs) m_L_law Ql 23 (hdL (i + 5) ex) [] h rc rs) :
    Runs 11 call (L, xs) m_L_law Ql 407 (hdL i ex) [] h (r + 20) (s + 100) := by
  have bb0 := (G.1 W a hP).1
  have hcode : (rCmb a (xs (i + 1)) (xs (i + 2)) (xs (i + 3)) (xs (i + 4))).1 < 2 ^ 31 := by
    unfold rCmb
    repeat (first | exact cd_fin _ _ _ _ _ (by decide) | (show 0 < 2 ^ 31; decide) | (show 1 < 2 ^ 31; decide) | (show 2 < 2 ^ 31; decide) | (show 3 < 2 ^ 31; decide) | split)
  rcases hex with rfl | ⟨u5, rfl⟩ | ⟨u5, u6, rfl⟩
  · refine go hc 0 (fun K hK => ?_)
    conv => whnf
    refine hK _ _ _ _ _ _ (go hc 51 (fun K hK => ?_))
    conv => whnf
    refine Or.inl ⟨rfl, ixv (k := i + 1) (ia (rfl : nI i = nI i) (rfl : (1 : Int32) = nI 1)) (show i + 1 < L by omega) (by omega), ?_⟩
    rw [ixc (k := i + 1) (ia (rfl : nI i = nI i) (rfl : (1 : Int32) = nI 1)) (by omega)]
    conv => whnf
    refine Or.inl ⟨rfl, ixv (k := i + 2) (ia (rfl : nI i = nI i) (rfl : (2 : Int32) = nI 2)) (show i + 2 < L by omega) (by omega), ?_⟩
    rw [ixc (k := i + 2) (ia (rfl : nI i = nI i) (rfl : (2 : Int32) = nI 2)) (by omega)]
    conv => whnf
    refine Or.inl ⟨rfl, ixv (k := i + 3) (ia (rfl : nI i = nI i) (rfl : (3 : Int32) = nI 3)) (show i + 3 < L by omega) (by omega), ?_⟩
    rw [ixc (k := i + 3) (ia (rfl : nI i = nI i) (rfl : (3 : Int32) = nI 3)) (by omega)]
    conv => whnf
    refine Or.inl ⟨rfl, ixv (k := i + 4) (ia (rfl : nI i = nI i) (rfl : (4 : Int32) = nI 4)) (show i + 4 < L by omega) (by omega), ?_⟩
    rw [ixc (k := i + 4) (ia (rfl : nI i = nI i) (rfl : (4 : Int32) = nI 4)) (by omega)]
    conv => whnf
    refine ⟨Nat.le_of_ble_eq_true rfl, ?_⟩
    conv => whnf
    refine callee hc (L_cmb G hP hr ?_)
    intro W1 o1 h1 hr1 hP1 ho1
    conv => whnf
    refine Or.inl ⟨rfl, ixv (k := i + 1) (ia (rfl : nI i = nI i) (rfl : (1 : Int32) = nI 1)) (show i + 1 < L by omega) (by omega), ?_⟩
    rw [ixc (k := i + 1) (ia (rfl : nI i = nI i) (rfl : (1 : Int32) = nI 1)) (by omega)]
    conv => whnf
    refine Or.inl ⟨rfl, ixv (k := i + 2) (ia (rfl : nI i = nI i) (rfl : (2 : Int32) = nI 2)) (show i + 2 < L by omega) (by omega), ?_⟩
    rw [ixc (k := i + 2) (ia (rfl : nI i = nI i) (rfl : (2 : Int32) = nI 2)) (by omega)]
    conv => whnf
    refine Or.inl ⟨rfl, ixv (k := i + 3) (ia (rfl : nI i = nI i) (rfl : (3 : Int32) = nI 3)) (show i + 3 < L by omega) (by omega), ?_⟩
    rw [ixc (k := i + 3) (ia (rfl : nI i = nI i) (rfl : (3 : Int32) = nI 3)) (by omega)]
    conv => whnf
    refine Or.inl ⟨rfl, ixv (k := i + 4) (ia (rfl : nI i = nI i) (rfl : (4 : Int32) = nI 4)) (show i + 4 < L by omega) (by omega), ?_⟩
    rw [ixc (k := i + 4) (ia (rfl : nI i = nI i) (rfl : (4 : Int32) = nI 4)) (by omega)]
    conv => whnf
    obtain ⟨D, hm, back⟩ := hr1.model
    refine ⟨_, hm.M, Nat.le_of_ble_eq_true rfl, ?_⟩
    conv => whnf
    refine callee hc (e_combine hm rz bb0.1 (fun q r hq hr n1 n2 => (G.2.2.2.2.2.2.1 W a q r hP hq hr).2.1 n1 n2) (fun q r hq hr n1 n2 => (G.2.2.2.2.2.2.1 W a q r hP hq hr).2.2.1 n1 n2) (fun q r hq hr => (G.2.2.2.2.2.2.1 W a q r hP hq hr).2.2.2.1) ?_)
    intro m2 h2 hm rz2 c2
    have hr2 := back m2 h2 hm
    conv => whnf
    refine ⟨_, hm.M, Nat.le_of_ble_eq_true rfl, ?_⟩
    conv => whnf
    refine callee hc (e_thrown hm ?_)
    rw [mF_of c2]
    conv => whnf
    refine ⟨fun c_ => ?_, fun c_ => absurd rfl c_⟩
    conv => whnf
    refine hK _ _ _ _ _ _ (go hc 2 (fun K hK => ?_))
    conv => whnf
    by_cases cz : (rCmb a (xs (i + 1)) (xs (i + 2)) (xs (i + 3)) (xs (i + 4))).1 = 0
    · rw [cz]
      have ho := ho1 cz
      refine ⟨fun c_ => ?_, fun c_ => absurd rfl c_⟩
      conv => whnf
      refine hK _ _ _ _ _ _ (go hc 7 (fun K hK => ?_))
      conv => whnf
      refine ⟨_, _, hr2.out, vp_in_nI (n := 0) (by omega) (by omega), ?_⟩
      conv => whnf
      refine ⟨fun c_ => ?_, fun c_ => absurd ((lg_cmp_eq _ _).mpr ho) c_⟩
      conv => whnf
      refine hK _ _ _ _ _ _ (go hc 3 (fun K hK => ?_))
      conv => whnf
      exact hK _ _ _ _ _ _ (by rw [i5]; exact next _ _ _ _ _ _ _ _ (Or.inr (Or.inr ⟨_, _, rfl⟩)) hP1 rz2 hr2 (subl rfl) (subs rfl))
    · refine ⟨fun c_ => absurd c_ (nI_ne0 (Nat.pos_of_ne_zero cz) (hcode)), fun c_ => ?_⟩
      conv => whnf
      refine hK _ _ _ _ _ _ (go hc 3 (fun K hK => ?_))
      conv => whnf
      exact hK _ _ _ _ _ _ (by rw [i5]; exact next _ _ _ _ _ _ _ _ (Or.inr (Or.inr ⟨_, _, rfl⟩)) hP1 rz2 hr2 (subl rfl) (subs rfl))
  · refine go hc 0 (fun K hK => ?_)
    conv => whnf
    refine hK _ _ _ _ _ _ (go hc 51 (fun K hK => ?_))
    conv => whnf
    refine Or.inl ⟨rfl, ixv (k := i + 1) (ia (rfl : nI i = nI i) (rfl : (1 : Int32) = nI 1)) (show i + 1 < L by omega) (by omega), ?_⟩
    rw [ixc (k := i + 1) (ia (rfl : nI i = nI i) (rfl : (1 : Int32) = nI 1)) (by omega)]
    conv => whnf
    refine Or.inl ⟨rfl, ixv (k := i + 2) (ia (rfl : nI i = nI i) (rfl : (2 : Int32) = nI 2)) (show i + 2 < L by omega) (by omega), ?_⟩
    rw [ixc (k := i + 2) (ia (rfl : nI i = nI i) (rfl : (2 : Int32) = nI 2)) (by omega)]
    conv => whnf
    refine Or.inl ⟨rfl, ixv (k := i + 3) (ia (rfl : nI i = nI i) (rfl : (3 : Int32) = nI 3)) (show i + 3 < L by omega) (by omega), ?_⟩
    rw [ixc (k := i + 3) (ia (rfl : nI i = nI i) (rfl : (3 : Int32) = nI 3)) (by omega)]
    conv => whnf
    refine Or.inl ⟨rfl, ixv (k := i + 4) (ia (rfl : nI i = nI i) (rfl : (4 : Int32) = nI 4)) (show i + 4 < L by omega) (by omega), ?_⟩
    rw [ixc (k := i + 4) (ia (rfl : nI i = nI i) (rfl : (4 : Int32) = nI 4)) (by omega)]
    conv => whnf
    refine ⟨Nat.le_of_ble_eq_true rfl, ?_⟩
    conv => whnf
    refine callee hc (L_cmb G hP hr ?_)
    intro W1 o1 h1 hr1 hP1 ho1
    conv => whnf
    refine Or.inl ⟨rfl, ixv (k := i + 1) (ia (rfl : nI i = nI i) (rfl : (1 : Int32) = nI 1)) (show i + 1 < L by omega) (by omega), ?_⟩
    rw [ixc (k := i + 1) (ia (rfl : nI i = nI i) (rfl : (1 : Int32) = nI 1)) (by omega)]
    conv => whnf
    refine Or.inl ⟨rfl, ixv (k := i + 2) (ia (rfl : nI i = nI i) (rfl : (2 : Int32) = nI 2)) (show i + 2 < L by omega) (by omega), ?_⟩
    rw [ixc (k := i + 2) (ia (rfl : nI i = nI i) (rfl : (2 : Int32) = nI 2)) (by omega)]
    conv => whnf
    refine Or.inl ⟨rfl, ixv (k := i + 3) (ia (rfl : nI i = nI i) (rfl : (3 : Int32) = nI 3)) (show i + 3 < L by omega) (by omega), ?_⟩
    rw [ixc (k := i + 3) (ia (rfl : nI i = nI i) (rfl : (3 : Int32) = nI 3)) (by omega)]
    conv => whnf
    refine Or.inl ⟨rfl, ixv (k := i + 4) (ia (rfl : nI i = nI i) (rfl : (4 : Int32) = nI 4)) (show i + 4 < L by omega) (by omega), ?_⟩
    rw [ixc (k := i + 4) (ia (rfl : nI i = nI i) (rfl : (4 : Int32) = nI 4)) (by omega)]
    conv => whnf
    obtain ⟨D, hm, back⟩ := hr1.model
    refine ⟨_, hm.M, Nat.le_of_ble_eq_true rfl, ?_⟩
    conv => whnf
    refine callee hc (e_combine hm rz bb0.1 (fun q r hq hr n1 n2 => (G.2.2.2.2.2.2.1 W a q r hP hq hr).2.1 n1 n2) (fun q r hq hr n1 n2 => (G.2.2.2.2.2.2.1 W a q r hP hq hr).2.2.1 n1 n2) (fun q r hq hr => (G.2.2.2.2.2.2.1 W a q r hP hq hr).2.2.2.1) ?_)
    intro m2 h2 hm rz2 c2
    have hr2 := back m2 h2 hm
    conv => whnf
    refine ⟨_, hm.M, Nat.le_of_ble_eq_true rfl, ?_⟩
    conv => whnf
    refine callee hc (e_thrown hm ?_)
    rw [mF_of c2]
    conv => whnf
    refine ⟨fun c_ => ?_, fun c_ => absurd rfl c_⟩
    conv => whnf
    refine hK _ _ _ _ _ _ (go hc 2 (fun K hK => ?_))
    conv => whnf
    by_cases cz : (rCmb a (xs (i + 1)) (xs (i + 2)) (xs (i + 3)) (xs (i + 4))).1 = 0
    · rw [cz]
      have ho := ho1 cz
      refine ⟨fun c_ => ?_, fun c_ => absurd rfl c_⟩
      conv => whnf
      refine hK _ _ _ _ _ _ (go hc 7 (fun K hK => ?_))
      conv => whnf
      refine ⟨_, _, hr2.out, vp_in_nI (n := 0) (by omega) (by omega), ?_⟩
      conv => whnf
      refine ⟨fun c_ => ?_, fun c_ => absurd ((lg_cmp_eq _ _).mpr ho) c_⟩
      conv => whnf
      refine hK _ _ _ _ _ _ (go hc 3 (fun K hK => ?_))
      conv => whnf
      exact hK _ _ _ _ _ _ (by rw [i5]; exact next _ _ _ _ _ _ _ _ (Or.inr (Or.inr ⟨_, _, rfl⟩)) hP1 rz2 hr2 (subl rfl) (subs rfl))
    · refine ⟨fun c_ => absurd c_ (nI_ne0 (Nat.pos_of_ne_zero cz) (hcode)), fun c_ => ?_⟩
      conv => whnf
      refine hK _ _ _ _ _ _ (go hc 3 (fun K hK => ?_))
      conv => whnf
      exact hK _ _ _ _ _ _ (by rw [i5]; exact next _ _ _ _ _ _ _ _ (Or.inr (Or.inr ⟨_, _, rfl⟩)) hP1 rz2 hr2 (subl rfl) (subs rfl))
  · refine go hc 0 (fun K hK => ?_)
    conv => whnf
    refine hK _ _ _ _ _ _ (go hc 51 (fun K hK => ?_))
    conv => whnf
    refine Or.inl ⟨rfl, ixv (k := i + 1) (ia (rfl : nI i = nI i) (rfl : (1 : Int32) = nI 1)) (show i + 1 < L by omega) (by omega), ?_⟩
    rw [ixc (k := i + 1) (ia (rfl : nI i = nI i) (rfl : (1 : Int32) = nI 1)) (by omega)]
    conv => whnf
    refine Or.inl ⟨rfl, ixv (k := i + 2) (ia (rfl : nI i = nI i) (rfl : (2 : Int32) = nI 2)) (show i + 2 < L by omega) (by omega), ?_⟩
    rw [ixc (k := i + 2) (ia (rfl : nI i = nI i) (rfl : (2 : Int32) = nI 2)) (by omega)]
    conv => whnf
    refine Or.inl ⟨rfl, ixv (k := i + 3) (ia (rfl : nI i = nI i) (rfl : (3 : Int32) = nI 3)) (show i + 3 < L by omega) (by omega), ?_⟩
    rw [ixc (k := i + 3) (ia (rfl : nI i = nI i) (rfl : (3 : Int32) = nI 3)) (by omega)]
    conv => whnf
    refine Or.inl ⟨rfl, ixv (k := i + 4) (ia (rfl : nI i = nI i) (rfl : (4 : Int32) = nI 4)) (show i + 4 < L by omega) (by omega), ?_⟩
    rw [ixc (k := i + 4) (ia (rfl : nI i = nI i) (rfl : (4 : Int32) = nI 4)) (by omega)]
    conv => whnf
    refine ⟨Nat.le_of_ble_eq_true rfl, ?_⟩
    conv => whnf
    refine callee hc (L_cmb G hP hr ?_)
    intro W1 o1 h1 hr1 hP1 ho1
    conv => whnf
    refine Or.inl ⟨rfl, ixv (k := i + 1) (ia (rfl : nI i = nI i) (rfl : (1 : Int32) = nI 1)) (show i + 1 < L by omega) (by omega), ?_⟩
    rw [ixc (k := i + 1) (ia (rfl : nI i = nI i) (rfl : (1 : Int32) = nI 1)) (by omega)]
    conv => whnf
    refine Or.inl ⟨rfl, ixv (k := i + 2) (ia (rfl : nI i = nI i) (rfl : (2 : Int32) = nI 2)) (show i + 2 < L by omega) (by omega), ?_⟩
    rw [ixc (k := i + 2) (ia (rfl : nI i = nI i) (rfl : (2 : Int32) = nI 2)) (by omega)]
    conv => whnf
    refine Or.inl ⟨rfl, ixv (k := i + 3) (ia (rfl : nI i = nI i) (rfl : (3 : Int32) = nI 3)) (show i + 3 < L by omega) (by omega), ?_⟩
    rw [ixc (k := i + 3) (ia (rfl : nI i = nI i) (rfl : (3 : Int32) = nI 3)) (by omega)]
    conv => whnf
    refine Or.inl ⟨rfl, ixv (k := i + 4) (ia (rfl : nI i = nI i) (rfl : (4 : Int32) = nI 4)) (show i + 4 < L by omega) (by omega), ?_⟩
    rw [ixc (k := i + 4) (ia (rfl : nI i = nI i) (rfl : (4 : Int32) = nI 4)) (by omega)]
    conv => whnf
    obtain ⟨D, hm, back⟩ := hr1.model
    refine ⟨_, hm.M, Nat.le_of_ble_eq_true rfl, ?_⟩
    conv => whnf
    refine callee hc (e_combine hm rz bb0.1 (fun q r hq hr n1 n2 => (G.2.2.2.2.2.2.1 W a q r hP hq hr).2.1 n1 n2) (fun q r hq hr n1 n2 => (G.2.2.2.2.2.2.1 W a q r hP hq hr).2.2.1 n1 n2) (fun q r hq hr => (G.2.2.2.2.2.2.1 W a q r hP hq hr).2.2.2.1) ?_)
    intro m2 h2 hm rz2 c2
    have hr2 := back m2 h2 hm
    conv => whnf
    refine ⟨_, hm.M, Nat.le_of_ble_eq_true rfl, ?_⟩
    conv => whnf
    refine callee hc (e_thrown hm ?_)
    rw [mF_of c2]
    conv => whnf
    refine ⟨fun c_ => ?_, fun c_ => absurd rfl c_⟩
    conv => whnf
    refine hK _ _ _ _ _ _ (go hc 2 (fun K hK => ?_))
    conv => whnf
    by_cases cz : (rCmb a (xs (i + 1)) (xs (i + 2)) (xs (i + 3)) (xs (i + 4))).1 = 0
    · rw [cz]
      have ho := ho1 cz
      refine ⟨fun c_ => ?_, fun c_ => absurd rfl c_⟩
      conv => whnf
      refine hK _ _ _ _ _ _ (go hc 7 (fun K hK => ?_))
      conv => whnf
      refine ⟨_, _, hr2.out, vp_in_nI (n := 0) (by omega) (by omega), ?_⟩
      conv => whnf
      refine ⟨fun c_ => ?_, fun c_ => absurd ((lg_cmp_eq _ _).mpr ho) c_⟩
      conv => whnf
      refine hK _ _ _ _ _ _ (go hc 3 (fun K hK => ?_))
      conv => whnf
      exact hK _ _ _ _ _ _ (by rw [i5]; exact next _ _ _ _ _ _ _ _ (Or.inr (Or.inr ⟨_, _, rfl⟩)) hP1 rz2 hr2 (subl rfl) (subs rfl))
    · refine ⟨fun c_ => absurd c_ (nI_ne0 (Nat.pos_of_ne_zero cz) (hcode)), fun c_ => ?_⟩
      conv => whnf
      refine hK _ _ _ _ _ _ (go hc 3 (fun K hK => ?_))
      conv => whnf
      exact hK _ _ _ _ _ _ (by rw [i5]; exact next _ _ _ _ _ _ _ _ (Or.inr (Or.inr ⟨_, _, rfl⟩)) hP1 rz2 hr2 (subl rfl) (subs rfl))
theorem lw_map {L : Nat} {xs : Nat → Int32} {call : Callee} (hc : call = wpC (L, xs) 11) (hL : L ≤ 320) (G : Good P) {i : Nat} (hi : i + 5 ≤ L) {W : AW} {a : RSt} {m : MM} {o : Nat → Int64} {h : PH} (hP : P W a) (rz : RZ m a) (hr : RepS W (toM m ++ [oA o]) h) {r s : Nat}
    {ex : LV} (hex : Hex ex) (next : ∀ W a m o h rc rs ex, Hex ex → P W a → RZ m a → RepS W (toM m ++ [oA o]) h → r ≤ rc → s ≤ rs → Runs 11 call (L, xs) m_L_law Ql 23 (hdL (i + 5) ex) [] h rc rs) :
    Runs 11 call (L, xs) m_L_law Ql 499 (hdL i ex) [] h (r + 20) (s + 100) := by
  have bb0 := (G.1 W a hP).1
  have main : ∀ p : Bool, ((p = false → xs (i + 2) = 0) ∧ (p = true → ¬ xs (i + 2) = 0)) → Runs 11 call (L, xs) m_L_law Ql 499 (hdL i ex) [] h (r + 20) (s + 100) := by
    intro p hp
    have hcode : (rMap a (xs (i + 1)) p (xs (i + 3))).1 < 2 ^ 31 := by
      unfold rMap
      repeat (first | exact cd_fin _ _ _ _ _ (by decide) | (show 0 < 2 ^ 31; decide) | (show 1 < 2 ^ 31; decide) | (show 2 < 2 ^ 31; decide) | (show 3 < 2 ^ 31; decide) | split)
    cases p with
    | false =>
      have hv := hp.1 rfl
      rcases hex with rfl | ⟨u5, rfl⟩ | ⟨u5, u6, rfl⟩
      · refine go hc 0 (fun K hK => ?_)
        conv => whnf
        refine hK _ _ _ _ _ _ (go hc 12 (fun K hK => ?_))
        conv => whnf
        refine Or.inl ⟨rfl, ixv (k := i + 1) (ia (rfl : nI i = nI i) (rfl : (1 : Int32) = nI 1)) (show i + 1 < L by omega) (by omega), ?_⟩
        rw [ixc (k := i + 1) (ia (rfl : nI i = nI i) (rfl : (1 : Int32) = nI 1)) (by omega)]
        conv => whnf
        refine Or.inl ⟨rfl, ixv (k := i + 2) (ia (rfl : nI i = nI i) (rfl : (2 : Int32) = nI 2)) (show i + 2 < L by omega) (by omega), ?_⟩
        rw [ixc (k := i + 2) (ia (rfl : nI i = nI i) (rfl : (2 : Int32) = nI 2)) (by omega)]
        conv => whnf
        refine ⟨fun c_ => ?_, fun c_ => absurd hv c_⟩
        conv => whnf
        refine hK _ _ _ _ _ _ (go hc 21 (fun K hK => ?_))
        conv => whnf
        refine Or.inl ⟨rfl, ixv (k := i + 3) (ia (rfl : nI i = nI i) (rfl : (3 : Int32) = nI 3)) (show i + 3 < L by omega) (by omega), ?_⟩
        rw [ixc (k := i + 3) (ia (rfl : nI i = nI i) (rfl : (3 : Int32) = nI 3)) (by omega)]
        conv => whnf
        refine ⟨Nat.le_of_ble_eq_true rfl, ?_⟩
        conv => whnf
        refine callee hc (L_map (x := xs (i + 1)) (y := xs (i + 3)) (b := false) G hP hr ?_)
        intro W1 o1 h1 hr1 hP1 ho1
        conv => whnf
        refine Or.inl ⟨rfl, ixv (k := i + 1) (ia (rfl : nI i = nI i) (rfl : (1 : Int32) = nI 1)) (show i + 1 < L by omega) (by omega), ?_⟩
        rw [ixc (k := i + 1) (ia (rfl : nI i = nI i) (rfl : (1 : Int32) = nI 1)) (by omega)]
        conv => whnf
        refine Or.inl ⟨rfl, ixv (k := i + 2) (ia (rfl : nI i = nI i) (rfl : (2 : Int32) = nI 2)) (show i + 2 < L by omega) (by omega), ?_⟩
        rw [ixc (k := i + 2) (ia (rfl : nI i = nI i) (rfl : (2 : Int32) = nI 2)) (by omega)]
        conv => whnf
        refine ⟨fun c_ => ?_, fun c_ => absurd hv c_⟩
        conv => whnf
        refine hK _ _ _ _ _ _ (go hc 12 (fun K hK => ?_))
        conv => whnf
        refine Or.inl ⟨rfl, ixv (k := i + 3) (ia (rfl : nI i = nI i) (rfl : (3 : Int32) = nI 3)) (show i + 3 < L by omega) (by omega), ?_⟩
        rw [ixc (k := i + 3) (ia (rfl : nI i = nI i) (rfl : (3 : Int32) = nI 3)) (by omega)]
        conv => whnf
        obtain ⟨D, hm, back⟩ := hr1.model
        refine ⟨_, hm.M, Nat.le_of_ble_eq_true rfl, ?_⟩
        conv => whnf
        refine callee hc (e_map hm rz bb0.1 (i := xs (i + 1)) (t := xs (i + 3)) (b := false) (fun q hq n1 n2 => (G.2.2.2.2.2.2.2.1 W a q false hP hq).2.1 n1 n2) (fun q hq n1 n2 => (G.2.2.2.2.2.2.2.1 W a q false hP hq).2.2.1 n1 n2) ?_)
        intro m2 h2 hm rz2 c2
        have hr2 := back m2 h2 hm
        conv => whnf
        refine ⟨_, hm.M, Nat.le_of_ble_eq_true rfl, ?_⟩
        conv => whnf
        refine callee hc (e_thrown hm ?_)
        rw [mF_of c2]
        conv => whnf
        refine ⟨fun c_ => ?_, fun c_ => absurd rfl c_⟩
        conv => whnf
        refine hK _ _ _ _ _ _ (go hc 2 (fun K hK => ?_))
        conv => whnf
        by_cases cz : (rMap a (xs (i + 1)) false (xs (i + 3))).1 = 0
        · rw [cz]
          have ho := ho1 cz
          refine ⟨fun c_ => ?_, fun c_ => absurd rfl c_⟩
          conv => whnf
          refine hK _ _ _ _ _ _ (go hc 7 (fun K hK => ?_))
          conv => whnf
          refine ⟨_, _, hr2.out, vp_in_nI (n := 0) (by omega) (by omega), ?_⟩
          conv => whnf
          refine ⟨fun c_ => ?_, fun c_ => absurd ((lg_cmp_eq _ _).mpr ho) c_⟩
          conv => whnf
          refine hK _ _ _ _ _ _ (go hc 3 (fun K hK => ?_))
          conv => whnf
          exact hK _ _ _ _ _ _ (by rw [i5]; exact next _ _ _ _ _ _ _ _ (Or.inr (Or.inr ⟨_, _, rfl⟩)) hP1 rz2 hr2 (subl rfl) (subs rfl))
        · refine ⟨fun c_ => absurd c_ (nI_ne0 (Nat.pos_of_ne_zero cz) (hcode)), fun c_ => ?_⟩
          conv => whnf
          refine hK _ _ _ _ _ _ (go hc 3 (fun K hK => ?_))
          conv => whnf
          exact hK _ _ _ _ _ _ (by rw [i5]; exact next _ _ _ _ _ _ _ _ (Or.inr (Or.inr ⟨_, _, rfl⟩)) hP1 rz2 hr2 (subl rfl) (subs rfl))
      · refine go hc 0 (fun K hK => ?_)
        conv => whnf
        refine hK _ _ _ _ _ _ (go hc 12 (fun K hK => ?_))
        conv => whnf
        refine Or.inl ⟨rfl, ixv (k := i + 1) (ia (rfl : nI i = nI i) (rfl : (1 : Int32) = nI 1)) (show i + 1 < L by omega) (by omega), ?_⟩
        rw [ixc (k := i + 1) (ia (rfl : nI i = nI i) (rfl : (1 : Int32) = nI 1)) (by omega)]
        conv => whnf
        refine Or.inl ⟨rfl, ixv (k := i + 2) (ia (rfl : nI i = nI i) (rfl : (2 : Int32) = nI 2)) (show i + 2 < L by omega) (by omega), ?_⟩
        rw [ixc (k := i + 2) (ia (rfl : nI i = nI i) (rfl : (2 : Int32) = nI 2)) (by omega)]
        conv => whnf
        refine ⟨fun c_ => ?_, fun c_ => absurd hv c_⟩
        conv => whnf
        refine hK _ _ _ _ _ _ (go hc 21 (fun K hK => ?_))
        conv => whnf
        refine Or.inl ⟨rfl, ixv (k := i + 3) (ia (rfl : nI i = nI i) (rfl : (3 : Int32) = nI 3)) (show i + 3 < L by omega) (by omega), ?_⟩
        rw [ixc (k := i + 3) (ia (rfl : nI i = nI i) (rfl : (3 : Int32) = nI 3)) (by omega)]
        conv => whnf
        refine ⟨Nat.le_of_ble_eq_true rfl, ?_⟩
        conv => whnf
        refine callee hc (L_map (x := xs (i + 1)) (y := xs (i + 3)) (b := false) G hP hr ?_)
        intro W1 o1 h1 hr1 hP1 ho1
        conv => whnf
        refine Or.inl ⟨rfl, ixv (k := i + 1) (ia (rfl : nI i = nI i) (rfl : (1 : Int32) = nI 1)) (show i + 1 < L by omega) (by omega), ?_⟩
        rw [ixc (k := i + 1) (ia (rfl : nI i = nI i) (rfl : (1 : Int32) = nI 1)) (by omega)]
        conv => whnf
        refine Or.inl ⟨rfl, ixv (k := i + 2) (ia (rfl : nI i = nI i) (rfl : (2 : Int32) = nI 2)) (show i + 2 < L by omega) (by omega), ?_⟩
        rw [ixc (k := i + 2) (ia (rfl : nI i = nI i) (rfl : (2 : Int32) = nI 2)) (by omega)]
        conv => whnf
        refine ⟨fun c_ => ?_, fun c_ => absurd hv c_⟩
        conv => whnf
        refine hK _ _ _ _ _ _ (go hc 12 (fun K hK => ?_))
        conv => whnf
        refine Or.inl ⟨rfl, ixv (k := i + 3) (ia (rfl : nI i = nI i) (rfl : (3 : Int32) = nI 3)) (show i + 3 < L by omega) (by omega), ?_⟩
        rw [ixc (k := i + 3) (ia (rfl : nI i = nI i) (rfl : (3 : Int32) = nI 3)) (by omega)]
        conv => whnf
        obtain ⟨D, hm, back⟩ := hr1.model
        refine ⟨_, hm.M, Nat.le_of_ble_eq_true rfl, ?_⟩
        conv => whnf
        refine callee hc (e_map hm rz bb0.1 (i := xs (i + 1)) (t := xs (i + 3)) (b := false) (fun q hq n1 n2 => (G.2.2.2.2.2.2.2.1 W a q false hP hq).2.1 n1 n2) (fun q hq n1 n2 => (G.2.2.2.2.2.2.2.1 W a q false hP hq).2.2.1 n1 n2) ?_)
        intro m2 h2 hm rz2 c2
        have hr2 := back m2 h2 hm
        conv => whnf
        refine ⟨_, hm.M, Nat.le_of_ble_eq_true rfl, ?_⟩
        conv => whnf
        refine callee hc (e_thrown hm ?_)
        rw [mF_of c2]
        conv => whnf
        refine ⟨fun c_ => ?_, fun c_ => absurd rfl c_⟩
        conv => whnf
        refine hK _ _ _ _ _ _ (go hc 2 (fun K hK => ?_))
        conv => whnf
        by_cases cz : (rMap a (xs (i + 1)) false (xs (i + 3))).1 = 0
        · rw [cz]
          have ho := ho1 cz
          refine ⟨fun c_ => ?_, fun c_ => absurd rfl c_⟩
          conv => whnf
          refine hK _ _ _ _ _ _ (go hc 7 (fun K hK => ?_))
          conv => whnf
          refine ⟨_, _, hr2.out, vp_in_nI (n := 0) (by omega) (by omega), ?_⟩
          conv => whnf
          refine ⟨fun c_ => ?_, fun c_ => absurd ((lg_cmp_eq _ _).mpr ho) c_⟩
          conv => whnf
          refine hK _ _ _ _ _ _ (go hc 3 (fun K hK => ?_))
          conv => whnf
          exact hK _ _ _ _ _ _ (by rw [i5]; exact next _ _ _ _ _ _ _ _ (Or.inr (Or.inr ⟨_, _, rfl⟩)) hP1 rz2 hr2 (subl rfl) (subs rfl))
        · refine ⟨fun c_ => absurd c_ (nI_ne0 (Nat.pos_of_ne_zero cz) (hcode)), fun c_ => ?_⟩
          conv => whnf
          refine hK _ _ _ _ _ _ (go hc 3 (fun K hK => ?_))
          conv => whnf
          exact hK _ _ _ _ _ _ (by rw [i5]; exact next _ _ _ _ _ _ _ _ (Or.inr (Or.inr ⟨_, _, rfl⟩)) hP1 rz2 hr2 (subl rfl) (subs rfl))
      · refine go hc 0 (fun K hK => ?_)
        conv => whnf
        refine hK _ _ _ _ _ _ (go hc 12 (fun K hK => ?_))
        conv => whnf
        refine Or.inl ⟨rfl, ixv (k := i + 1) (ia (rfl : nI i = nI i) (rfl : (1 : Int32) = nI 1)) (show i + 1 < L by omega) (by omega), ?_⟩
        rw [ixc (k := i + 1) (ia (rfl : nI i = nI i) (rfl : (1 : Int32) = nI 1)) (by omega)]
        conv => whnf
        refine Or.inl ⟨rfl, ixv (k := i + 2) (ia (rfl : nI i = nI i) (rfl : (2 : Int32) = nI 2)) (show i + 2 < L by omega) (by omega), ?_⟩
        rw [ixc (k := i + 2) (ia (rfl : nI i = nI i) (rfl : (2 : Int32) = nI 2)) (by omega)]
        conv => whnf
        refine ⟨fun c_ => ?_, fun c_ => absurd hv c_⟩
        conv => whnf
        refine hK _ _ _ _ _ _ (go hc 21 (fun K hK => ?_))
        conv => whnf
        refine Or.inl ⟨rfl, ixv (k := i + 3) (ia (rfl : nI i = nI i) (rfl : (3 : Int32) = nI 3)) (show i + 3 < L by omega) (by omega), ?_⟩
        rw [ixc (k := i + 3) (ia (rfl : nI i = nI i) (rfl : (3 : Int32) = nI 3)) (by omega)]
        conv => whnf
        refine ⟨Nat.le_of_ble_eq_true rfl, ?_⟩
        conv => whnf
        refine callee hc (L_map (x := xs (i + 1)) (y := xs (i + 3)) (b := false) G hP hr ?_)
        intro W1 o1 h1 hr1 hP1 ho1
        conv => whnf
        refine Or.inl ⟨rfl, ixv (k := i + 1) (ia (rfl : nI i = nI i) (rfl : (1 : Int32) = nI 1)) (show i + 1 < L by omega) (by omega), ?_⟩
        rw [ixc (k := i + 1) (ia (rfl : nI i = nI i) (rfl : (1 : Int32) = nI 1)) (by omega)]
        conv => whnf
        refine Or.inl ⟨rfl, ixv (k := i + 2) (ia (rfl : nI i = nI i) (rfl : (2 : Int32) = nI 2)) (show i + 2 < L by omega) (by omega), ?_⟩
        rw [ixc (k := i + 2) (ia (rfl : nI i = nI i) (rfl : (2 : Int32) = nI 2)) (by omega)]
        conv => whnf
        refine ⟨fun c_ => ?_, fun c_ => absurd hv c_⟩
        conv => whnf
        refine hK _ _ _ _ _ _ (go hc 12 (fun K hK => ?_))
        conv => whnf
        refine Or.inl ⟨rfl, ixv (k := i + 3) (ia (rfl : nI i = nI i) (rfl : (3 : Int32) = nI 3)) (show i + 3 < L by omega) (by omega), ?_⟩
        rw [ixc (k := i + 3) (ia (rfl : nI i = nI i) (rfl : (3 : Int32) = nI 3)) (by omega)]
        conv => whnf
        obtain ⟨D, hm, back⟩ := hr1.model
        refine ⟨_, hm.M, Nat.le_of_ble_eq_true rfl, ?_⟩
        conv => whnf
        refine callee hc (e_map hm rz bb0.1 (i := xs (i + 1)) (t := xs (i + 3)) (b := false) (fun q hq n1 n2 => (G.2.2.2.2.2.2.2.1 W a q false hP hq).2.1 n1 n2) (fun q hq n1 n2 => (G.2.2.2.2.2.2.2.1 W a q false hP hq).2.2.1 n1 n2) ?_)
        intro m2 h2 hm rz2 c2
        have hr2 := back m2 h2 hm
        conv => whnf
        refine ⟨_, hm.M, Nat.le_of_ble_eq_true rfl, ?_⟩
        conv => whnf
        refine callee hc (e_thrown hm ?_)
        rw [mF_of c2]
        conv => whnf
        refine ⟨fun c_ => ?_, fun c_ => absurd rfl c_⟩
        conv => whnf
        refine hK _ _ _ _ _ _ (go hc 2 (fun K hK => ?_))
        conv => whnf
        by_cases cz : (rMap a (xs (i + 1)) false (xs (i + 3))).1 = 0
        · rw [cz]
          have ho := ho1 cz
          refine ⟨fun c_ => ?_, fun c_ => absurd rfl c_⟩
          conv => whnf
          refine hK _ _ _ _ _ _ (go hc 7 (fun K hK => ?_))
          conv => whnf
          refine ⟨_, _, hr2.out, vp_in_nI (n := 0) (by omega) (by omega), ?_⟩
          conv => whnf
          refine ⟨fun c_ => ?_, fun c_ => absurd ((lg_cmp_eq _ _).mpr ho) c_⟩
          conv => whnf
          refine hK _ _ _ _ _ _ (go hc 3 (fun K hK => ?_))
          conv => whnf
          exact hK _ _ _ _ _ _ (by rw [i5]; exact next _ _ _ _ _ _ _ _ (Or.inr (Or.inr ⟨_, _, rfl⟩)) hP1 rz2 hr2 (subl rfl) (subs rfl))
        · refine ⟨fun c_ => absurd c_ (nI_ne0 (Nat.pos_of_ne_zero cz) (hcode)), fun c_ => ?_⟩
          conv => whnf
          refine hK _ _ _ _ _ _ (go hc 3 (fun K hK => ?_))
          conv => whnf
          exact hK _ _ _ _ _ _ (by rw [i5]; exact next _ _ _ _ _ _ _ _ (Or.inr (Or.inr ⟨_, _, rfl⟩)) hP1 rz2 hr2 (subl rfl) (subs rfl))
    | true =>
      have hv := hp.2 rfl
      rcases hex with rfl | ⟨u5, rfl⟩ | ⟨u5, u6, rfl⟩
      · refine go hc 0 (fun K hK => ?_)
        conv => whnf
        refine hK _ _ _ _ _ _ (go hc 12 (fun K hK => ?_))
        conv => whnf
        refine Or.inl ⟨rfl, ixv (k := i + 1) (ia (rfl : nI i = nI i) (rfl : (1 : Int32) = nI 1)) (show i + 1 < L by omega) (by omega), ?_⟩
        rw [ixc (k := i + 1) (ia (rfl : nI i = nI i) (rfl : (1 : Int32) = nI 1)) (by omega)]
        conv => whnf
        refine Or.inl ⟨rfl, ixv (k := i + 2) (ia (rfl : nI i = nI i) (rfl : (2 : Int32) = nI 2)) (show i + 2 < L by omega) (by omega), ?_⟩
        rw [ixc (k := i + 2) (ia (rfl : nI i = nI i) (rfl : (2 : Int32) = nI 2)) (by omega)]
        conv => whnf
        refine ⟨fun c_ => absurd c_ hv, fun c_ => ?_⟩
        conv => whnf
        refine hK _ _ _ _ _ _ (go hc 22 (fun K hK => ?_))
        conv => whnf
        refine Or.inl ⟨rfl, ixv (k := i + 3) (ia (rfl : nI i = nI i) (rfl : (3 : Int32) = nI 3)) (show i + 3 < L by omega) (by omega), ?_⟩
        rw [ixc (k := i + 3) (ia (rfl : nI i = nI i) (rfl : (3 : Int32) = nI 3)) (by omega)]
        conv => whnf
        refine ⟨Nat.le_of_ble_eq_true rfl, ?_⟩
        conv => whnf
        refine callee hc (L_map (x := xs (i + 1)) (y := xs (i + 3)) (b := true) G hP hr ?_)
        intro W1 o1 h1 hr1 hP1 ho1
        conv => whnf
        refine Or.inl ⟨rfl, ixv (k := i + 1) (ia (rfl : nI i = nI i) (rfl : (1 : Int32) = nI 1)) (show i + 1 < L by omega) (by omega), ?_⟩
        rw [ixc (k := i + 1) (ia (rfl : nI i = nI i) (rfl : (1 : Int32) = nI 1)) (by omega)]
        conv => whnf
        refine Or.inl ⟨rfl, ixv (k := i + 2) (ia (rfl : nI i = nI i) (rfl : (2 : Int32) = nI 2)) (show i + 2 < L by omega) (by omega), ?_⟩
        rw [ixc (k := i + 2) (ia (rfl : nI i = nI i) (rfl : (2 : Int32) = nI 2)) (by omega)]
        conv => whnf
        refine ⟨fun c_ => absurd c_ hv, fun c_ => ?_⟩
        conv => whnf
        refine hK _ _ _ _ _ _ (go hc 13 (fun K hK => ?_))
        conv => whnf
        refine Or.inl ⟨rfl, ixv (k := i + 3) (ia (rfl : nI i = nI i) (rfl : (3 : Int32) = nI 3)) (show i + 3 < L by omega) (by omega), ?_⟩
        rw [ixc (k := i + 3) (ia (rfl : nI i = nI i) (rfl : (3 : Int32) = nI 3)) (by omega)]
        conv => whnf
        obtain ⟨D, hm, back⟩ := hr1.model
        refine ⟨_, hm.M, Nat.le_of_ble_eq_true rfl, ?_⟩
        conv => whnf
        refine callee hc (e_map hm rz bb0.1 (i := xs (i + 1)) (t := xs (i + 3)) (b := true) (fun q hq n1 n2 => (G.2.2.2.2.2.2.2.1 W a q true hP hq).2.1 n1 n2) (fun q hq n1 n2 => (G.2.2.2.2.2.2.2.1 W a q true hP hq).2.2.1 n1 n2) ?_)
        intro m2 h2 hm rz2 c2
        have hr2 := back m2 h2 hm
        conv => whnf
        refine ⟨_, hm.M, Nat.le_of_ble_eq_true rfl, ?_⟩
        conv => whnf
        refine callee hc (e_thrown hm ?_)
        rw [mF_of c2]
        conv => whnf
        refine ⟨fun c_ => ?_, fun c_ => absurd rfl c_⟩
        conv => whnf
        refine hK _ _ _ _ _ _ (go hc 2 (fun K hK => ?_))
        conv => whnf
        by_cases cz : (rMap a (xs (i + 1)) true (xs (i + 3))).1 = 0
        · rw [cz]
          have ho := ho1 cz
          refine ⟨fun c_ => ?_, fun c_ => absurd rfl c_⟩
          conv => whnf
          refine hK _ _ _ _ _ _ (go hc 7 (fun K hK => ?_))
          conv => whnf
          refine ⟨_, _, hr2.out, vp_in_nI (n := 0) (by omega) (by omega), ?_⟩
          conv => whnf
          refine ⟨fun c_ => ?_, fun c_ => absurd ((lg_cmp_eq _ _).mpr ho) c_⟩
          conv => whnf
          refine hK _ _ _ _ _ _ (go hc 3 (fun K hK => ?_))
          conv => whnf
          exact hK _ _ _ _ _ _ (by rw [i5]; exact next _ _ _ _ _ _ _ _ (Or.inr (Or.inr ⟨_, _, rfl⟩)) hP1 rz2 hr2 (subl rfl) (subs rfl))
        · refine ⟨fun c_ => absurd c_ (nI_ne0 (Nat.pos_of_ne_zero cz) (hcode)), fun c_ => ?_⟩
          conv => whnf
          refine hK _ _ _ _ _ _ (go hc 3 (fun K hK => ?_))
          conv => whnf
          exact hK _ _ _ _ _ _ (by rw [i5]; exact next _ _ _ _ _ _ _ _ (Or.inr (Or.inr ⟨_, _, rfl⟩)) hP1 rz2 hr2 (subl rfl) (subs rfl))
      · refine go hc 0 (fun K hK => ?_)
        conv => whnf
        refine hK _ _ _ _ _ _ (go hc 12 (fun K hK => ?_))
        conv => whnf
        refine Or.inl ⟨rfl, ixv (k := i + 1) (ia (rfl : nI i = nI i) (rfl : (1 : Int32) = nI 1)) (show i + 1 < L by omega) (by omega), ?_⟩
        rw [ixc (k := i + 1) (ia (rfl : nI i = nI i) (rfl : (1 : Int32) = nI 1)) (by omega)]
        conv => whnf
        refine Or.inl ⟨rfl, ixv (k := i + 2) (ia (rfl : nI i = nI i) (rfl : (2 : Int32) = nI 2)) (show i + 2 < L by omega) (by omega), ?_⟩
        rw [ixc (k := i + 2) (ia (rfl : nI i = nI i) (rfl : (2 : Int32) = nI 2)) (by omega)]
        conv => whnf
        refine ⟨fun c_ => absurd c_ hv, fun c_ => ?_⟩
        conv => whnf
        refine hK _ _ _ _ _ _ (go hc 22 (fun K hK => ?_))
        conv => whnf
        refine Or.inl ⟨rfl, ixv (k := i + 3) (ia (rfl : nI i = nI i) (rfl : (3 : Int32) = nI 3)) (show i + 3 < L by omega) (by omega), ?_⟩
        rw [ixc (k := i + 3) (ia (rfl : nI i = nI i) (rfl : (3 : Int32) = nI 3)) (by omega)]
        conv => whnf
        refine ⟨Nat.le_of_ble_eq_true rfl, ?_⟩
        conv => whnf
        refine callee hc (L_map (x := xs (i + 1)) (y := xs (i + 3)) (b := true) G hP hr ?_)
        intro W1 o1 h1 hr1 hP1 ho1
        conv => whnf
        refine Or.inl ⟨rfl, ixv (k := i + 1) (ia (rfl : nI i = nI i) (rfl : (1 : Int32) = nI 1)) (show i + 1 < L by omega) (by omega), ?_⟩
        rw [ixc (k := i + 1) (ia (rfl : nI i = nI i) (rfl : (1 : Int32) = nI 1)) (by omega)]
        conv => whnf
        refine Or.inl ⟨rfl, ixv (k := i + 2) (ia (rfl : nI i = nI i) (rfl : (2 : Int32) = nI 2)) (show i + 2 < L by omega) (by omega), ?_⟩
        rw [ixc (k := i + 2) (ia (rfl : nI i = nI i) (rfl : (2 : Int32) = nI 2)) (by omega)]
        conv => whnf
        refine ⟨fun c_ => absurd c_ hv, fun c_ => ?_⟩
        conv => whnf
        refine hK _ _ _ _ _ _ (go hc 13 (fun K hK => ?_))
        conv => whnf
        refine Or.inl ⟨rfl, ixv (k := i + 3) (ia (rfl : nI i = nI i) (rfl : (3 : Int32) = nI 3)) (show i + 3 < L by omega) (by omega), ?_⟩
        rw [ixc (k := i + 3) (ia (rfl : nI i = nI i) (rfl : (3 : Int32) = nI 3)) (by omega)]
        conv => whnf
        obtain ⟨D, hm, back⟩ := hr1.model
        refine ⟨_, hm.M, Nat.le_of_ble_eq_true rfl, ?_⟩
        conv => whnf
        refine callee hc (e_map hm rz bb0.1 (i := xs (i + 1)) (t := xs (i + 3)) (b := true) (fun q hq n1 n2 => (G.2.2.2.2.2.2.2.1 W a q true hP hq).2.1 n1 n2) (fun q hq n1 n2 => (G.2.2.2.2.2.2.2.1 W a q true hP hq).2.2.1 n1 n2) ?_)
        intro m2 h2 hm rz2 c2
        have hr2 := back m2 h2 hm
        conv => whnf
        refine ⟨_, hm.M, Nat.le_of_ble_eq_true rfl, ?_⟩
        conv => whnf
        refine callee hc (e_thrown hm ?_)
        rw [mF_of c2]
        conv => whnf
        refine ⟨fun c_ => ?_, fun c_ => absurd rfl c_⟩
        conv => whnf
        refine hK _ _ _ _ _ _ (go hc 2 (fun K hK => ?_))
        conv => whnf
        by_cases cz : (rMap a (xs (i + 1)) true (xs (i + 3))).1 = 0
        · rw [cz]
          have ho := ho1 cz
          refine ⟨fun c_ => ?_, fun c_ => absurd rfl c_⟩
          conv => whnf
          refine hK _ _ _ _ _ _ (go hc 7 (fun K hK => ?_))
          conv => whnf
          refine ⟨_, _, hr2.out, vp_in_nI (n := 0) (by omega) (by omega), ?_⟩
          conv => whnf
          refine ⟨fun c_ => ?_, fun c_ => absurd ((lg_cmp_eq _ _).mpr ho) c_⟩
          conv => whnf
          refine hK _ _ _ _ _ _ (go hc 3 (fun K hK => ?_))
          conv => whnf
          exact hK _ _ _ _ _ _ (by rw [i5]; exact next _ _ _ _ _ _ _ _ (Or.inr (Or.inr ⟨_, _, rfl⟩)) hP1 rz2 hr2 (subl rfl) (subs rfl))
        · refine ⟨fun c_ => absurd c_ (nI_ne0 (Nat.pos_of_ne_zero cz) (hcode)), fun c_ => ?_⟩
          conv => whnf
          refine hK _ _ _ _ _ _ (go hc 3 (fun K hK => ?_))
          conv => whnf
          exact hK _ _ _ _ _ _ (by rw [i5]; exact next _ _ _ _ _ _ _ _ (Or.inr (Or.inr ⟨_, _, rfl⟩)) hP1 rz2 hr2 (subl rfl) (subs rfl))
      · refine go hc 0 (fun K hK => ?_)
        conv => whnf
        refine hK _ _ _ _ _ _ (go hc 12 (fun K hK => ?_))
        conv => whnf
        refine Or.inl ⟨rfl, ixv (k := i + 1) (ia (rfl : nI i = nI i) (rfl : (1 : Int32) = nI 1)) (show i + 1 < L by omega) (by omega), ?_⟩
        rw [ixc (k := i + 1) (ia (rfl : nI i = nI i) (rfl : (1 : Int32) = nI 1)) (by omega)]
        conv => whnf
        refine Or.inl ⟨rfl, ixv (k := i + 2) (ia (rfl : nI i = nI i) (rfl : (2 : Int32) = nI 2)) (show i + 2 < L by omega) (by omega), ?_⟩
        rw [ixc (k := i + 2) (ia (rfl : nI i = nI i) (rfl : (2 : Int32) = nI 2)) (by omega)]
        conv => whnf
        refine ⟨fun c_ => absurd c_ hv, fun c_ => ?_⟩
        conv => whnf
        refine hK _ _ _ _ _ _ (go hc 22 (fun K hK => ?_))
        conv => whnf
        refine Or.inl ⟨rfl, ixv (k := i + 3) (ia (rfl : nI i = nI i) (rfl : (3 : Int32) = nI 3)) (show i + 3 < L by omega) (by omega), ?_⟩
        rw [ixc (k := i + 3) (ia (rfl : nI i = nI i) (rfl : (3 : Int32) = nI 3)) (by omega)]
        conv => whnf
        refine ⟨Nat.le_of_ble_eq_true rfl, ?_⟩
        conv => whnf
        refine callee hc (L_map (x := xs (i + 1)) (y := xs (i + 3)) (b := true) G hP hr ?_)
        intro W1 o1 h1 hr1 hP1 ho1
        conv => whnf
        refine Or.inl ⟨rfl, ixv (k := i + 1) (ia (rfl : nI i = nI i) (rfl : (1 : Int32) = nI 1)) (show i + 1 < L by omega) (by omega), ?_⟩
        rw [ixc (k := i + 1) (ia (rfl : nI i = nI i) (rfl : (1 : Int32) = nI 1)) (by omega)]
        conv => whnf
        refine Or.inl ⟨rfl, ixv (k := i + 2) (ia (rfl : nI i = nI i) (rfl : (2 : Int32) = nI 2)) (show i + 2 < L by omega) (by omega), ?_⟩
        rw [ixc (k := i + 2) (ia (rfl : nI i = nI i) (rfl : (2 : Int32) = nI 2)) (by omega)]
        conv => whnf
        refine ⟨fun c_ => absurd c_ hv, fun c_ => ?_⟩
        conv => whnf
        refine hK _ _ _ _ _ _ (go hc 13 (fun K hK => ?_))
        conv => whnf
        refine Or.inl ⟨rfl, ixv (k := i + 3) (ia (rfl : nI i = nI i) (rfl : (3 : Int32) = nI 3)) (show i + 3 < L by omega) (by omega), ?_⟩
        rw [ixc (k := i + 3) (ia (rfl : nI i = nI i) (rfl : (3 : Int32) = nI 3)) (by omega)]
        conv => whnf
        obtain ⟨D, hm, back⟩ := hr1.model
        refine ⟨_, hm.M, Nat.le_of_ble_eq_true rfl, ?_⟩
        conv => whnf
        refine callee hc (e_map hm rz bb0.1 (i := xs (i + 1)) (t := xs (i + 3)) (b := true) (fun q hq n1 n2 => (G.2.2.2.2.2.2.2.1 W a q true hP hq).2.1 n1 n2) (fun q hq n1 n2 => (G.2.2.2.2.2.2.2.1 W a q true hP hq).2.2.1 n1 n2) ?_)
        intro m2 h2 hm rz2 c2
        have hr2 := back m2 h2 hm
        conv => whnf
        refine ⟨_, hm.M, Nat.le_of_ble_eq_true rfl, ?_⟩
        conv => whnf
        refine callee hc (e_thrown hm ?_)
        rw [mF_of c2]
        conv => whnf
        refine ⟨fun c_ => ?_, fun c_ => absurd rfl c_⟩
        conv => whnf
        refine hK _ _ _ _ _ _ (go hc 2 (fun K hK => ?_))
        conv => whnf
        by_cases cz : (rMap a (xs (i + 1)) true (xs (i + 3))).1 = 0
        · rw [cz]
          have ho := ho1 cz
          refine ⟨fun c_ => ?_, fun c_ => absurd rfl c_⟩
          conv => whnf
          refine hK _ _ _ _ _ _ (go hc 7 (fun K hK => ?_))
          conv => whnf
          refine ⟨_, _, hr2.out, vp_in_nI (n := 0) (by omega) (by omega), ?_⟩
          conv => whnf
          refine ⟨fun c_ => ?_, fun c_ => absurd ((lg_cmp_eq _ _).mpr ho) c_⟩
          conv => whnf
          refine hK _ _ _ _ _ _ (go hc 3 (fun K hK => ?_))
          conv => whnf
          exact hK _ _ _ _ _ _ (by rw [i5]; exact next _ _ _ _ _ _ _ _ (Or.inr (Or.inr ⟨_, _, rfl⟩)) hP1 rz2 hr2 (subl rfl) (subs rfl))
        · refine ⟨fun c_ => absurd c_ (nI_ne0 (Nat.pos_of_ne_zero cz) (hcode)), fun c_ => ?_⟩
          conv => whnf
          refine hK _ _ _ _ _ _ (go hc 3 (fun K hK => ?_))
          conv => whnf
          exact hK _ _ _ _ _ _ (by rw [i5]; exact next _ _ _ _ _ _ _ _ (Or.inr (Or.inr ⟨_, _, rfl⟩)) hP1 rz2 hr2 (subl rfl) (subs rfl))
  by_cases hv : xs (i + 2) = 0
  · exact main false ⟨fun _ => hv, fun q => (by cases q)⟩
  · exact main true ⟨fun q => (by cases q), fun _ => hv⟩
theorem lw_max {L : Nat} {xs : Nat → Int32} {call : Callee} (hc : call = wpC (L, xs) 11) (hL : L ≤ 320) (G : Good P) {i : Nat} (hi : i + 5 ≤ L) {W : AW} {a : RSt} {m : MM} {o : Nat → Int64} {h : PH} (hP : P W a) (rz : RZ m a) (hr : RepS W (toM m ++ [oA o]) h) {r s : Nat}
    {ex : LV} (hex : Hex ex) (next : ∀ W a m o h rc rs ex, Hex ex → P W a → RZ m a → RepS W (toM m ++ [oA o]) h → r ≤ rc → s ≤ rs → Runs 11 call (L, xs) m_L_law Ql 23 (hdL (i + 5) ex) [] h rc rs) :
    Runs 11 call (L, xs) m_L_law Ql 595 (hdL i ex) [] h (r + 20) (s + 100) := by
  have bb0 := (G.1 W a hP).1
  have hcode : (rMax a (xs (i + 1))).1 < 2 ^ 31 := by
    unfold rMax
    repeat (first | exact cd_fin _ _ _ _ _ (by decide) | (show 0 < 2 ^ 31; decide) | (show 1 < 2 ^ 31; decide) | (show 2 < 2 ^ 31; decide) | (show 3 < 2 ^ 31; decide) | split)
  rcases hex with rfl | ⟨u5, rfl⟩ | ⟨u5, u6, rfl⟩
  · refine go hc 0 (fun K hK => ?_)
    conv => whnf
    refine hK _ _ _ _ _ _ (go hc 21 (fun K hK => ?_))
    conv => whnf
    refine Or.inl ⟨rfl, ixv (k := i + 1) (ia (rfl : nI i = nI i) (rfl : (1 : Int32) = nI 1)) (show i + 1 < L by omega) (by omega), ?_⟩
    rw [ixc (k := i + 1) (ia (rfl : nI i = nI i) (rfl : (1 : Int32) = nI 1)) (by omega)]
    conv => whnf
    refine ⟨Nat.le_of_ble_eq_true rfl, ?_⟩
    conv => whnf
    refine callee hc (L_max G hP hr ?_)
    intro W1 o1 h1 hr1 hP1 ho1
    conv => whnf
    refine Or.inl ⟨rfl, ixv (k := i + 1) (ia (rfl : nI i = nI i) (rfl : (1 : Int32) = nI 1)) (show i + 1 < L by omega) (by omega), ?_⟩
    rw [ixc (k := i + 1) (ia (rfl : nI i = nI i) (rfl : (1 : Int32) = nI 1)) (by omega)]
    conv => whnf
    obtain ⟨D, hm, back⟩ := hr1.model
    refine ⟨_, hm.M, Nat.le_of_ble_eq_true rfl, ?_⟩
    conv => whnf
    refine callee hc (e_maximum hm rz bb0.1 ?_)
    intro m2 h2 hm rz2 c2
    have hr2 := back m2 h2 hm
    conv => whnf
    refine ⟨_, hm.M, Nat.le_of_ble_eq_true rfl, ?_⟩
    conv => whnf
    refine callee hc (e_thrown hm ?_)
    rw [mF_of c2]
    conv => whnf
    refine ⟨fun c_ => ?_, fun c_ => absurd rfl c_⟩
    conv => whnf
    refine hK _ _ _ _ _ _ (go hc 2 (fun K hK => ?_))
    conv => whnf
    by_cases cz : (rMax a (xs (i + 1))).1 = 0
    · rw [cz]
      have ho := ho1 cz
      refine ⟨fun c_ => ?_, fun c_ => absurd rfl c_⟩
      conv => whnf
      refine hK _ _ _ _ _ _ (go hc 7 (fun K hK => ?_))
      conv => whnf
      refine ⟨_, _, hr2.out, vp_in_nI (n := 0) (by omega) (by omega), ?_⟩
      conv => whnf
      refine ⟨fun c_ => ?_, fun c_ => absurd ((lg_cmp_eq _ _).mpr ho) c_⟩
      conv => whnf
      refine hK _ _ _ _ _ _ (go hc 3 (fun K hK => ?_))
      conv => whnf
      exact hK _ _ _ _ _ _ (by rw [i5]; exact next _ _ _ _ _ _ _ _ (Or.inr (Or.inr ⟨_, _, rfl⟩)) hP1 rz2 hr2 (subl rfl) (subs rfl))
    · refine ⟨fun c_ => absurd c_ (nI_ne0 (Nat.pos_of_ne_zero cz) (hcode)), fun c_ => ?_⟩
      conv => whnf
      refine hK _ _ _ _ _ _ (go hc 3 (fun K hK => ?_))
      conv => whnf
      exact hK _ _ _ _ _ _ (by rw [i5]; exact next _ _ _ _ _ _ _ _ (Or.inr (Or.inr ⟨_, _, rfl⟩)) hP1 rz2 hr2 (subl rfl) (subs rfl))
  · refine go hc 0 (fun K hK => ?_)
    conv => whnf
    refine hK _ _ _ _ _ _ (go hc 21 (fun K hK => ?_))
    conv => whnf
    refine Or.inl ⟨rfl, ixv (k := i + 1) (ia (rfl : nI i = nI i) (rfl : (1 : Int32) = nI 1)) (show i + 1 < L by omega) (by omega), ?_⟩
    rw [ixc (k := i + 1) (ia (rfl : nI i = nI i) (rfl : (1 : Int32) = nI 1)) (by omega)]
    conv => whnf
    refine ⟨Nat.le_of_ble_eq_true rfl, ?_⟩
    conv => whnf
    refine callee hc (L_max G hP hr ?_)
    intro W1 o1 h1 hr1 hP1 ho1
    conv => whnf
    refine Or.inl ⟨rfl, ixv (k := i + 1) (ia (rfl : nI i = nI i) (rfl : (1 : Int32) = nI 1)) (show i + 1 < L by omega) (by omega), ?_⟩
    rw [ixc (k := i + 1) (ia (rfl : nI i = nI i) (rfl : (1 : Int32) = nI 1)) (by omega)]
    conv => whnf
    obtain ⟨D, hm, back⟩ := hr1.model
    refine ⟨_, hm.M, Nat.le_of_ble_eq_true rfl, ?_⟩
    conv => whnf
    refine callee hc (e_maximum hm rz bb0.1 ?_)
    intro m2 h2 hm rz2 c2
    have hr2 := back m2 h2 hm
    conv => whnf
    refine ⟨_, hm.M, Nat.le_of_ble_eq_true rfl, ?_⟩
    conv => whnf
    refine callee hc (e_thrown hm ?_)
    rw [mF_of c2]
    conv => whnf
    refine ⟨fun c_ => ?_, fun c_ => absurd rfl c_⟩
    conv => whnf
    refine hK _ _ _ _ _ _ (go hc 2 (fun K hK => ?_))
    conv => whnf
    by_cases cz : (rMax a (xs (i + 1))).1 = 0
    · rw [cz]
      have ho := ho1 cz
      refine ⟨fun c_ => ?_, fun c_ => absurd rfl c_⟩
      conv => whnf
      refine hK _ _ _ _ _ _ (go hc 7 (fun K hK => ?_))
      conv => whnf
      refine ⟨_, _, hr2.out, vp_in_nI (n := 0) (by omega) (by omega), ?_⟩
      conv => whnf
      refine ⟨fun c_ => ?_, fun c_ => absurd ((lg_cmp_eq _ _).mpr ho) c_⟩
      conv => whnf
      refine hK _ _ _ _ _ _ (go hc 3 (fun K hK => ?_))
      conv => whnf
      exact hK _ _ _ _ _ _ (by rw [i5]; exact next _ _ _ _ _ _ _ _ (Or.inr (Or.inr ⟨_, _, rfl⟩)) hP1 rz2 hr2 (subl rfl) (subs rfl))
    · refine ⟨fun c_ => absurd c_ (nI_ne0 (Nat.pos_of_ne_zero cz) (hcode)), fun c_ => ?_⟩
      conv => whnf
      refine hK _ _ _ _ _ _ (go hc 3 (fun K hK => ?_))
      conv => whnf
      exact hK _ _ _ _ _ _ (by rw [i5]; exact next _ _ _ _ _ _ _ _ (Or.inr (Or.inr ⟨_, _, rfl⟩)) hP1 rz2 hr2 (subl rfl) (subs rfl))
  · refine go hc 0 (fun K hK => ?_)
    conv => whnf
    refine hK _ _ _ _ _ _ (go hc 21 (fun K hK => ?_))
    conv => whnf
    refine Or.inl ⟨rfl, ixv (k := i + 1) (ia (rfl : nI i = nI i) (rfl : (1 : Int32) = nI 1)) (show i + 1 < L by omega) (by omega), ?_⟩
    rw [ixc (k := i + 1) (ia (rfl : nI i = nI i) (rfl : (1 : Int32) = nI 1)) (by omega)]
    conv => whnf
    refine ⟨Nat.le_of_ble_eq_true rfl, ?_⟩
    conv => whnf
    refine callee hc (L_max G hP hr ?_)
    intro W1 o1 h1 hr1 hP1 ho1
    conv => whnf
    refine Or.inl ⟨rfl, ixv (k := i + 1) (ia (rfl : nI i = nI i) (rfl : (1 : Int32) = nI 1)) (show i + 1 < L by omega) (by omega), ?_⟩
    rw [ixc (k := i + 1) (ia (rfl : nI i = nI i) (rfl : (1 : Int32) = nI 1)) (by omega)]
    conv => whnf
    obtain ⟨D, hm, back⟩ := hr1.model
    refine ⟨_, hm.M, Nat.le_of_ble_eq_true rfl, ?_⟩
    conv => whnf
    refine callee hc (e_maximum hm rz bb0.1 ?_)
    intro m2 h2 hm rz2 c2
    have hr2 := back m2 h2 hm
    conv => whnf
    refine ⟨_, hm.M, Nat.le_of_ble_eq_true rfl, ?_⟩
    conv => whnf
    refine callee hc (e_thrown hm ?_)
    rw [mF_of c2]
    conv => whnf
    refine ⟨fun c_ => ?_, fun c_ => absurd rfl c_⟩
    conv => whnf
    refine hK _ _ _ _ _ _ (go hc 2 (fun K hK => ?_))
    conv => whnf
    by_cases cz : (rMax a (xs (i + 1))).1 = 0
    · rw [cz]
      have ho := ho1 cz
      refine ⟨fun c_ => ?_, fun c_ => absurd rfl c_⟩
      conv => whnf
      refine hK _ _ _ _ _ _ (go hc 7 (fun K hK => ?_))
      conv => whnf
      refine ⟨_, _, hr2.out, vp_in_nI (n := 0) (by omega) (by omega), ?_⟩
      conv => whnf
      refine ⟨fun c_ => ?_, fun c_ => absurd ((lg_cmp_eq _ _).mpr ho) c_⟩
      conv => whnf
      refine hK _ _ _ _ _ _ (go hc 3 (fun K hK => ?_))
      conv => whnf
      exact hK _ _ _ _ _ _ (by rw [i5]; exact next _ _ _ _ _ _ _ _ (Or.inr (Or.inr ⟨_, _, rfl⟩)) hP1 rz2 hr2 (subl rfl) (subs rfl))
    · refine ⟨fun c_ => absurd c_ (nI_ne0 (Nat.pos_of_ne_zero cz) (hcode)), fun c_ => ?_⟩
      conv => whnf
      refine hK _ _ _ _ _ _ (go hc 3 (fun K hK => ?_))
      conv => whnf
      exact hK _ _ _ _ _ _ (by rw [i5]; exact next _ _ _ _ _ _ _ _ (Or.inr (Or.inr ⟨_, _, rfl⟩)) hP1 rz2 hr2 (subl rfl) (subs rfl))
theorem lw_grt {L : Nat} {xs : Nat → Int32} {call : Callee} (hc : call = wpC (L, xs) 11) (hL : L ≤ 320) (G : Good P) {i : Nat} (hi : i + 5 ≤ L) {W : AW} {a : RSt} {m : MM} {o : Nat → Int64} {h : PH} (hP : P W a) (rz : RZ m a) (hr : RepS W (toM m ++ [oA o]) h) {r s : Nat}
    {ex : LV} (hex : Hex ex) (next : ∀ W a m o h rc rs ex, Hex ex → P W a → RZ m a → RepS W (toM m ++ [oA o]) h → r ≤ rc → s ≤ rs → Runs 11 call (L, xs) m_L_law Ql 23 (hdL (i + 5) ex) [] h rc rs) :
    Runs 11 call (L, xs) m_L_law Ql 651 (hdL i ex) [] h (r + 20) (s + 100) := by
  have bb0 := (G.1 W a hP).1
  have hcode : (rGrt a (xs (i + 1))).1 < 2 ^ 31 := by
    unfold rGrt
    repeat (first | exact cd_fin _ _ _ _ _ (by decide) | (show 0 < 2 ^ 31; decide) | (show 1 < 2 ^ 31; decide) | (show 2 < 2 ^ 31; decide) | (show 3 < 2 ^ 31; decide) | split)
  rcases hex with rfl | ⟨u5, rfl⟩ | ⟨u5, u6, rfl⟩
  · refine go hc 0 (fun K hK => ?_)
    conv => whnf
    refine hK _ _ _ _ _ _ (go hc 21 (fun K hK => ?_))
    conv => whnf
    refine Or.inl ⟨rfl, ixv (k := i + 1) (ia (rfl : nI i = nI i) (rfl : (1 : Int32) = nI 1)) (show i + 1 < L by omega) (by omega), ?_⟩
    rw [ixc (k := i + 1) (ia (rfl : nI i = nI i) (rfl : (1 : Int32) = nI 1)) (by omega)]
    conv => whnf
    refine ⟨Nat.le_of_ble_eq_true rfl, ?_⟩
    conv => whnf
    refine callee hc (L_grt G hP hr ?_)
    intro W1 o1 h1 hr1 hP1 ho1
    conv => whnf
    refine Or.inl ⟨rfl, ixv (k := i + 1) (ia (rfl : nI i = nI i) (rfl : (1 : Int32) = nI 1)) (show i + 1 < L by omega) (by omega), ?_⟩
    rw [ixc (k := i + 1) (ia (rfl : nI i = nI i) (rfl : (1 : Int32) = nI 1)) (by omega)]
    conv => whnf
    obtain ⟨D, hm, back⟩ := hr1.model
    refine ⟨_, hm.M, Nat.le_of_ble_eq_true rfl, ?_⟩
    conv => whnf
    refine callee hc (e_greatest hm rz ?_)
    intro m2 h2 hm rz2 c2
    have hr2 := back m2 h2 hm
    conv => whnf
    refine ⟨_, hm.M, Nat.le_of_ble_eq_true rfl, ?_⟩
    conv => whnf
    refine callee hc (e_thrown hm ?_)
    rw [mF_of c2]
    conv => whnf
    refine ⟨fun c_ => ?_, fun c_ => absurd rfl c_⟩
    conv => whnf
    refine hK _ _ _ _ _ _ (go hc 2 (fun K hK => ?_))
    conv => whnf
    by_cases cz : (rGrt a (xs (i + 1))).1 = 0
    · rw [cz]
      have ho := ho1 cz
      refine ⟨fun c_ => ?_, fun c_ => absurd rfl c_⟩
      conv => whnf
      refine hK _ _ _ _ _ _ (go hc 7 (fun K hK => ?_))
      conv => whnf
      refine ⟨_, _, hr2.out, vp_in_nI (n := 0) (by omega) (by omega), ?_⟩
      conv => whnf
      refine ⟨fun c_ => ?_, fun c_ => absurd ((lg_cmp_eq _ _).mpr ho) c_⟩
      conv => whnf
      refine hK _ _ _ _ _ _ (go hc 3 (fun K hK => ?_))
      conv => whnf
      exact hK _ _ _ _ _ _ (by rw [i5]; exact next _ _ _ _ _ _ _ _ (Or.inr (Or.inr ⟨_, _, rfl⟩)) hP1 rz2 hr2 (subl rfl) (subs rfl))
    · refine ⟨fun c_ => absurd c_ (nI_ne0 (Nat.pos_of_ne_zero cz) (hcode)), fun c_ => ?_⟩
      conv => whnf
      refine hK _ _ _ _ _ _ (go hc 3 (fun K hK => ?_))
      conv => whnf
      exact hK _ _ _ _ _ _ (by rw [i5]; exact next _ _ _ _ _ _ _ _ (Or.inr (Or.inr ⟨_, _, rfl⟩)) hP1 rz2 hr2 (subl rfl) (subs rfl))
  · refine go hc 0 (fun K hK => ?_)
    conv => whnf
    refine hK _ _ _ _ _ _ (go hc 21 (fun K hK => ?_))
    conv => whnf
    refine Or.inl ⟨rfl, ixv (k := i + 1) (ia (rfl : nI i = nI i) (rfl : (1 : Int32) = nI 1)) (show i + 1 < L by omega) (by omega), ?_⟩
    rw [ixc (k := i + 1) (ia (rfl : nI i = nI i) (rfl : (1 : Int32) = nI 1)) (by omega)]
    conv => whnf
    refine ⟨Nat.le_of_ble_eq_true rfl, ?_⟩
    conv => whnf
    refine callee hc (L_grt G hP hr ?_)
    intro W1 o1 h1 hr1 hP1 ho1
    conv => whnf
    refine Or.inl ⟨rfl, ixv (k := i + 1) (ia (rfl : nI i = nI i) (rfl : (1 : Int32) = nI 1)) (show i + 1 < L by omega) (by omega), ?_⟩
    rw [ixc (k := i + 1) (ia (rfl : nI i = nI i) (rfl : (1 : Int32) = nI 1)) (by omega)]
    conv => whnf
    obtain ⟨D, hm, back⟩ := hr1.model
    refine ⟨_, hm.M, Nat.le_of_ble_eq_true rfl, ?_⟩
    conv => whnf
    refine callee hc (e_greatest hm rz ?_)
    intro m2 h2 hm rz2 c2
    have hr2 := back m2 h2 hm
    conv => whnf
    refine ⟨_, hm.M, Nat.le_of_ble_eq_true rfl, ?_⟩
    conv => whnf
    refine callee hc (e_thrown hm ?_)
    rw [mF_of c2]
    conv => whnf
    refine ⟨fun c_ => ?_, fun c_ => absurd rfl c_⟩
    conv => whnf
    refine hK _ _ _ _ _ _ (go hc 2 (fun K hK => ?_))
    conv => whnf
    by_cases cz : (rGrt a (xs (i + 1))).1 = 0
    · rw [cz]
      have ho := ho1 cz
      refine ⟨fun c_ => ?_, fun c_ => absurd rfl c_⟩
      conv => whnf
      refine hK _ _ _ _ _ _ (go hc 7 (fun K hK => ?_))
      conv => whnf
      refine ⟨_, _, hr2.out, vp_in_nI (n := 0) (by omega) (by omega), ?_⟩
      conv => whnf
      refine ⟨fun c_ => ?_, fun c_ => absurd ((lg_cmp_eq _ _).mpr ho) c_⟩
      conv => whnf
      refine hK _ _ _ _ _ _ (go hc 3 (fun K hK => ?_))
      conv => whnf
      exact hK _ _ _ _ _ _ (by rw [i5]; exact next _ _ _ _ _ _ _ _ (Or.inr (Or.inr ⟨_, _, rfl⟩)) hP1 rz2 hr2 (subl rfl) (subs rfl))
    · refine ⟨fun c_ => absurd c_ (nI_ne0 (Nat.pos_of_ne_zero cz) (hcode)), fun c_ => ?_⟩
      conv => whnf
      refine hK _ _ _ _ _ _ (go hc 3 (fun K hK => ?_))
      conv => whnf
      exact hK _ _ _ _ _ _ (by rw [i5]; exact next _ _ _ _ _ _ _ _ (Or.inr (Or.inr ⟨_, _, rfl⟩)) hP1 rz2 hr2 (subl rfl) (subs rfl))
  · refine go hc 0 (fun K hK => ?_)
    conv => whnf
    refine hK _ _ _ _ _ _ (go hc 21 (fun K hK => ?_))
    conv => whnf
    refine Or.inl ⟨rfl, ixv (k := i + 1) (ia (rfl : nI i = nI i) (rfl : (1 : Int32) = nI 1)) (show i + 1 < L by omega) (by omega), ?_⟩
    rw [ixc (k := i + 1) (ia (rfl : nI i = nI i) (rfl : (1 : Int32) = nI 1)) (by omega)]
    conv => whnf
    refine ⟨Nat.le_of_ble_eq_true rfl, ?_⟩
    conv => whnf
    refine callee hc (L_grt G hP hr ?_)
    intro W1 o1 h1 hr1 hP1 ho1
    conv => whnf
    refine Or.inl ⟨rfl, ixv (k := i + 1) (ia (rfl : nI i = nI i) (rfl : (1 : Int32) = nI 1)) (show i + 1 < L by omega) (by omega), ?_⟩
    rw [ixc (k := i + 1) (ia (rfl : nI i = nI i) (rfl : (1 : Int32) = nI 1)) (by omega)]
    conv => whnf
    obtain ⟨D, hm, back⟩ := hr1.model
    refine ⟨_, hm.M, Nat.le_of_ble_eq_true rfl, ?_⟩
    conv => whnf
    refine callee hc (e_greatest hm rz ?_)
    intro m2 h2 hm rz2 c2
    have hr2 := back m2 h2 hm
    conv => whnf
    refine ⟨_, hm.M, Nat.le_of_ble_eq_true rfl, ?_⟩
    conv => whnf
    refine callee hc (e_thrown hm ?_)
    rw [mF_of c2]
    conv => whnf
    refine ⟨fun c_ => ?_, fun c_ => absurd rfl c_⟩
    conv => whnf
    refine hK _ _ _ _ _ _ (go hc 2 (fun K hK => ?_))
    conv => whnf
    by_cases cz : (rGrt a (xs (i + 1))).1 = 0
    · rw [cz]
      have ho := ho1 cz
      refine ⟨fun c_ => ?_, fun c_ => absurd rfl c_⟩
      conv => whnf
      refine hK _ _ _ _ _ _ (go hc 7 (fun K hK => ?_))
      conv => whnf
      refine ⟨_, _, hr2.out, vp_in_nI (n := 0) (by omega) (by omega), ?_⟩
      conv => whnf
      refine ⟨fun c_ => ?_, fun c_ => absurd ((lg_cmp_eq _ _).mpr ho) c_⟩
      conv => whnf
      refine hK _ _ _ _ _ _ (go hc 3 (fun K hK => ?_))
      conv => whnf
      exact hK _ _ _ _ _ _ (by rw [i5]; exact next _ _ _ _ _ _ _ _ (Or.inr (Or.inr ⟨_, _, rfl⟩)) hP1 rz2 hr2 (subl rfl) (subs rfl))
    · refine ⟨fun c_ => absurd c_ (nI_ne0 (Nat.pos_of_ne_zero cz) (hcode)), fun c_ => ?_⟩
      conv => whnf
      refine hK _ _ _ _ _ _ (go hc 3 (fun K hK => ?_))
      conv => whnf
      exact hK _ _ _ _ _ _ (by rw [i5]; exact next _ _ _ _ _ _ _ _ (Or.inr (Or.inr ⟨_, _, rfl⟩)) hP1 rz2 hr2 (subl rfl) (subs rfl))
theorem lw_has {L : Nat} {xs : Nat → Int32} {call : Callee} (hc : call = wpC (L, xs) 11) (hL : L ≤ 320) (G : Good P) {i : Nat} (hi : i + 5 ≤ L) {W : AW} {a : RSt} {m : MM} {o : Nat → Int64} {h : PH} (hP : P W a) (rz : RZ m a) (hr : RepS W (toM m ++ [oA o]) h) {r s : Nat}
    {ex : LV} (hex : Hex ex) (next : ∀ W a m o h rc rs ex, Hex ex → P W a → RZ m a → RepS W (toM m ++ [oA o]) h → r ≤ rc → s ≤ rs → Runs 11 call (L, xs) m_L_law Ql 23 (hdL (i + 5) ex) [] h rc rs) :
    Runs 11 call (L, xs) m_L_law Ql 707 (hdL i ex) [] h (r + 20) (s + 100) := by
  have bb0 := (G.1 W a hP).1
  have hcode : (rHas a (xs (i + 1))).1 < 2 ^ 31 := by
    unfold rHas
    repeat (first | exact cd_fin _ _ _ _ _ (by decide) | (show 0 < 2 ^ 31; decide) | (show 1 < 2 ^ 31; decide) | (show 2 < 2 ^ 31; decide) | (show 3 < 2 ^ 31; decide) | split)
  rcases hex with rfl | ⟨u5, rfl⟩ | ⟨u5, u6, rfl⟩
  · refine go hc 0 (fun K hK => ?_)
    conv => whnf
    refine hK _ _ _ _ _ _ (go hc 21 (fun K hK => ?_))
    conv => whnf
    refine Or.inl ⟨rfl, ixv (k := i + 1) (ia (rfl : nI i = nI i) (rfl : (1 : Int32) = nI 1)) (show i + 1 < L by omega) (by omega), ?_⟩
    rw [ixc (k := i + 1) (ia (rfl : nI i = nI i) (rfl : (1 : Int32) = nI 1)) (by omega)]
    conv => whnf
    refine ⟨Nat.le_of_ble_eq_true rfl, ?_⟩
    conv => whnf
    refine callee hc (L_has G hP hr ?_)
    intro W1 o1 h1 hr1 hP1 ho1
    conv => whnf
    refine Or.inl ⟨rfl, ixv (k := i + 1) (ia (rfl : nI i = nI i) (rfl : (1 : Int32) = nI 1)) (show i + 1 < L by omega) (by omega), ?_⟩
    rw [ixc (k := i + 1) (ia (rfl : nI i = nI i) (rfl : (1 : Int32) = nI 1)) (by omega)]
    conv => whnf
    obtain ⟨D, hm, back⟩ := hr1.model
    refine ⟨_, hm.M, Nat.le_of_ble_eq_true rfl, ?_⟩
    conv => whnf
    refine callee hc (e_has hm rz bb0.1 ?_)
    intro m2 h2 hm rz2 c2
    have hr2 := back m2 h2 hm
    conv => whnf
    refine ⟨_, hm.M, Nat.le_of_ble_eq_true rfl, ?_⟩
    conv => whnf
    refine callee hc (e_thrown hm ?_)
    rw [mF_of c2]
    conv => whnf
    refine ⟨fun c_ => ?_, fun c_ => absurd rfl c_⟩
    conv => whnf
    refine hK _ _ _ _ _ _ (go hc 2 (fun K hK => ?_))
    conv => whnf
    by_cases cz : (rHas a (xs (i + 1))).1 = 0
    · rw [cz]
      have ho := ho1 cz
      refine ⟨fun c_ => ?_, fun c_ => absurd rfl c_⟩
      conv => whnf
      refine hK _ _ _ _ _ _ (go hc 5 (fun K hK => ?_))
      conv => whnf
      refine ⟨_, _, hr2.out, vp_in_nI (n := 0) (by omega) (by omega), ?_⟩
      conv => whnf
      have hbb : ((rHas a (xs (i + 1))).2.1 = 0 ∧ o1 0 = 0) ∨ ((rHas a (xs (i + 1))).2.1 ≠ 0 ∧ o1 0 = 1) := by
        rw [ho]
        exact has_bit
      rcases hbb with ⟨h6, h7⟩ | ⟨h6, h7⟩
      · refine ⟨fun c_ => ?_, fun c_ => absurd h6 c_⟩
        conv => whnf
        refine hK _ _ _ _ _ _ (go hc 3 (fun K hK => ?_))
        conv => whnf
        refine ⟨fun c_ => ?_, fun c_ => absurd ((lg_cmp_eq _ _).mpr h7) c_⟩
        conv => whnf
        refine hK _ _ _ _ _ _ (go hc 3 (fun K hK => ?_))
        conv => whnf
        exact hK _ _ _ _ _ _ (by rw [i5]; exact next _ _ _ _ _ _ _ _ (Or.inr (Or.inr ⟨_, _, rfl⟩)) hP1 rz2 hr2 (subl rfl) (subs rfl))
      · refine ⟨fun c_ => absurd c_ h6, fun c_ => ?_⟩
        conv => whnf
        refine hK _ _ _ _ _ _ (go hc 4 (fun K hK => ?_))
        conv => whnf
        refine ⟨fun c_ => ?_, fun c_ => absurd ((lg_cmp_eq _ _).mpr h7) c_⟩
        conv => whnf
        refine hK _ _ _ _ _ _ (go hc 3 (fun K hK => ?_))
        conv => whnf
        exact hK _ _ _ _ _ _ (by rw [i5]; exact next _ _ _ _ _ _ _ _ (Or.inr (Or.inr ⟨_, _, rfl⟩)) hP1 rz2 hr2 (subl rfl) (subs rfl))
    · refine ⟨fun c_ => absurd c_ (nI_ne0 (Nat.pos_of_ne_zero cz) (hcode)), fun c_ => ?_⟩
      conv => whnf
      refine hK _ _ _ _ _ _ (go hc 3 (fun K hK => ?_))
      conv => whnf
      exact hK _ _ _ _ _ _ (by rw [i5]; exact next _ _ _ _ _ _ _ _ (Or.inr (Or.inr ⟨_, _, rfl⟩)) hP1 rz2 hr2 (subl rfl) (subs rfl))
  · refine go hc 0 (fun K hK => ?_)
    conv => whnf
    refine hK _ _ _ _ _ _ (go hc 21 (fun K hK => ?_))
    conv => whnf
    refine Or.inl ⟨rfl, ixv (k := i + 1) (ia (rfl : nI i = nI i) (rfl : (1 : Int32) = nI 1)) (show i + 1 < L by omega) (by omega), ?_⟩
    rw [ixc (k := i + 1) (ia (rfl : nI i = nI i) (rfl : (1 : Int32) = nI 1)) (by omega)]
    conv => whnf
    refine ⟨Nat.le_of_ble_eq_true rfl, ?_⟩
    conv => whnf
    refine callee hc (L_has G hP hr ?_)
    intro W1 o1 h1 hr1 hP1 ho1
    conv => whnf
    refine Or.inl ⟨rfl, ixv (k := i + 1) (ia (rfl : nI i = nI i) (rfl : (1 : Int32) = nI 1)) (show i + 1 < L by omega) (by omega), ?_⟩
    rw [ixc (k := i + 1) (ia (rfl : nI i = nI i) (rfl : (1 : Int32) = nI 1)) (by omega)]
    conv => whnf
    obtain ⟨D, hm, back⟩ := hr1.model
    refine ⟨_, hm.M, Nat.le_of_ble_eq_true rfl, ?_⟩
    conv => whnf
    refine callee hc (e_has hm rz bb0.1 ?_)
    intro m2 h2 hm rz2 c2
    have hr2 := back m2 h2 hm
    conv => whnf
    refine ⟨_, hm.M, Nat.le_of_ble_eq_true rfl, ?_⟩
    conv => whnf
    refine callee hc (e_thrown hm ?_)
    rw [mF_of c2]
    conv => whnf
    refine ⟨fun c_ => ?_, fun c_ => absurd rfl c_⟩
    conv => whnf
    refine hK _ _ _ _ _ _ (go hc 2 (fun K hK => ?_))
    conv => whnf
    by_cases cz : (rHas a (xs (i + 1))).1 = 0
    · rw [cz]
      have ho := ho1 cz
      refine ⟨fun c_ => ?_, fun c_ => absurd rfl c_⟩
      conv => whnf
      refine hK _ _ _ _ _ _ (go hc 5 (fun K hK => ?_))
      conv => whnf
      refine ⟨_, _, hr2.out, vp_in_nI (n := 0) (by omega) (by omega), ?_⟩
      conv => whnf
      have hbb : ((rHas a (xs (i + 1))).2.1 = 0 ∧ o1 0 = 0) ∨ ((rHas a (xs (i + 1))).2.1 ≠ 0 ∧ o1 0 = 1) := by
        rw [ho]
        exact has_bit
      rcases hbb with ⟨h6, h7⟩ | ⟨h6, h7⟩
      · refine ⟨fun c_ => ?_, fun c_ => absurd h6 c_⟩
        conv => whnf
        refine hK _ _ _ _ _ _ (go hc 3 (fun K hK => ?_))
        conv => whnf
        refine ⟨fun c_ => ?_, fun c_ => absurd ((lg_cmp_eq _ _).mpr h7) c_⟩
        conv => whnf
        refine hK _ _ _ _ _ _ (go hc 3 (fun K hK => ?_))
        conv => whnf
        exact hK _ _ _ _ _ _ (by rw [i5]; exact next _ _ _ _ _ _ _ _ (Or.inr (Or.inr ⟨_, _, rfl⟩)) hP1 rz2 hr2 (subl rfl) (subs rfl))
      · refine ⟨fun c_ => absurd c_ h6, fun c_ => ?_⟩
        conv => whnf
        refine hK _ _ _ _ _ _ (go hc 4 (fun K hK => ?_))
        conv => whnf
        refine ⟨fun c_ => ?_, fun c_ => absurd ((lg_cmp_eq _ _).mpr h7) c_⟩
        conv => whnf
        refine hK _ _ _ _ _ _ (go hc 3 (fun K hK => ?_))
        conv => whnf
        exact hK _ _ _ _ _ _ (by rw [i5]; exact next _ _ _ _ _ _ _ _ (Or.inr (Or.inr ⟨_, _, rfl⟩)) hP1 rz2 hr2 (subl rfl) (subs rfl))
    · refine ⟨fun c_ => absurd c_ (nI_ne0 (Nat.pos_of_ne_zero cz) (hcode)), fun c_ => ?_⟩
      conv => whnf
      refine hK _ _ _ _ _ _ (go hc 3 (fun K hK => ?_))
      conv => whnf
      exact hK _ _ _ _ _ _ (by rw [i5]; exact next _ _ _ _ _ _ _ _ (Or.inr (Or.inr ⟨_, _, rfl⟩)) hP1 rz2 hr2 (subl rfl) (subs rfl))
  · refine go hc 0 (fun K hK => ?_)
    conv => whnf
    refine hK _ _ _ _ _ _ (go hc 21 (fun K hK => ?_))
    conv => whnf
    refine Or.inl ⟨rfl, ixv (k := i + 1) (ia (rfl : nI i = nI i) (rfl : (1 : Int32) = nI 1)) (show i + 1 < L by omega) (by omega), ?_⟩
    rw [ixc (k := i + 1) (ia (rfl : nI i = nI i) (rfl : (1 : Int32) = nI 1)) (by omega)]
    conv => whnf
    refine ⟨Nat.le_of_ble_eq_true rfl, ?_⟩
    conv => whnf
    refine callee hc (L_has G hP hr ?_)
    intro W1 o1 h1 hr1 hP1 ho1
    conv => whnf
    refine Or.inl ⟨rfl, ixv (k := i + 1) (ia (rfl : nI i = nI i) (rfl : (1 : Int32) = nI 1)) (show i + 1 < L by omega) (by omega), ?_⟩
    rw [ixc (k := i + 1) (ia (rfl : nI i = nI i) (rfl : (1 : Int32) = nI 1)) (by omega)]
    conv => whnf
    obtain ⟨D, hm, back⟩ := hr1.model
    refine ⟨_, hm.M, Nat.le_of_ble_eq_true rfl, ?_⟩
    conv => whnf
    refine callee hc (e_has hm rz bb0.1 ?_)
    intro m2 h2 hm rz2 c2
    have hr2 := back m2 h2 hm
    conv => whnf
    refine ⟨_, hm.M, Nat.le_of_ble_eq_true rfl, ?_⟩
    conv => whnf
    refine callee hc (e_thrown hm ?_)
    rw [mF_of c2]
    conv => whnf
    refine ⟨fun c_ => ?_, fun c_ => absurd rfl c_⟩
    conv => whnf
    refine hK _ _ _ _ _ _ (go hc 2 (fun K hK => ?_))
    conv => whnf
    by_cases cz : (rHas a (xs (i + 1))).1 = 0
    · rw [cz]
      have ho := ho1 cz
      refine ⟨fun c_ => ?_, fun c_ => absurd rfl c_⟩
      conv => whnf
      refine hK _ _ _ _ _ _ (go hc 5 (fun K hK => ?_))
      conv => whnf
      refine ⟨_, _, hr2.out, vp_in_nI (n := 0) (by omega) (by omega), ?_⟩
      conv => whnf
      have hbb : ((rHas a (xs (i + 1))).2.1 = 0 ∧ o1 0 = 0) ∨ ((rHas a (xs (i + 1))).2.1 ≠ 0 ∧ o1 0 = 1) := by
        rw [ho]
        exact has_bit
      rcases hbb with ⟨h6, h7⟩ | ⟨h6, h7⟩
      · refine ⟨fun c_ => ?_, fun c_ => absurd h6 c_⟩
        conv => whnf
        refine hK _ _ _ _ _ _ (go hc 3 (fun K hK => ?_))
        conv => whnf
        refine ⟨fun c_ => ?_, fun c_ => absurd ((lg_cmp_eq _ _).mpr h7) c_⟩
        conv => whnf
        refine hK _ _ _ _ _ _ (go hc 3 (fun K hK => ?_))
        conv => whnf
        exact hK _ _ _ _ _ _ (by rw [i5]; exact next _ _ _ _ _ _ _ _ (Or.inr (Or.inr ⟨_, _, rfl⟩)) hP1 rz2 hr2 (subl rfl) (subs rfl))
      · refine ⟨fun c_ => absurd c_ h6, fun c_ => ?_⟩
        conv => whnf
        refine hK _ _ _ _ _ _ (go hc 4 (fun K hK => ?_))
        conv => whnf
        refine ⟨fun c_ => ?_, fun c_ => absurd ((lg_cmp_eq _ _).mpr h7) c_⟩
        conv => whnf
        refine hK _ _ _ _ _ _ (go hc 3 (fun K hK => ?_))
        conv => whnf
        exact hK _ _ _ _ _ _ (by rw [i5]; exact next _ _ _ _ _ _ _ _ (Or.inr (Or.inr ⟨_, _, rfl⟩)) hP1 rz2 hr2 (subl rfl) (subs rfl))
    · refine ⟨fun c_ => absurd c_ (nI_ne0 (Nat.pos_of_ne_zero cz) (hcode)), fun c_ => ?_⟩
      conv => whnf
      refine hK _ _ _ _ _ _ (go hc 3 (fun K hK => ?_))
      conv => whnf
      exact hK _ _ _ _ _ _ (by rw [i5]; exact next _ _ _ _ _ _ _ _ (Or.inr (Or.inr ⟨_, _, rfl⟩)) hP1 rz2 hr2 (subl rfl) (subs rfl))
theorem lw_inc {L : Nat} {xs : Nat → Int32} {call : Callee} (hc : call = wpC (L, xs) 11) (hL : L ≤ 320) (G : Good P) {i : Nat} (hi : i + 5 ≤ L) {W : AW} {a : RSt} {m : MM} {o : Nat → Int64} {h : PH} (hP : P W a) (rz : RZ m a) (hr : RepS W (toM m ++ [oA o]) h) {r s : Nat}
    {ex : LV} (hex : Hex ex) (next : ∀ W a m o h rc rs ex, Hex ex → P W a → RZ m a → RepS W (toM m ++ [oA o]) h → r ≤ rc → s ≤ rs → Runs 11 call (L, xs) m_L_law Ql 23 (hdL (i + 5) ex) [] h rc rs) :
    Runs 11 call (L, xs) m_L_law Ql 770 (hdL i ex) [] h (r + 20) (s + 100) := by
  have bb0 := (G.1 W a hP).1
  have hcode : (rInc a (xs (i + 1)) (xs (i + 2))).1 < 2 ^ 31 := by
    unfold rInc
    repeat (first | exact cd_fin _ _ _ _ _ (by decide) | (show 0 < 2 ^ 31; decide) | (show 1 < 2 ^ 31; decide) | (show 2 < 2 ^ 31; decide) | (show 3 < 2 ^ 31; decide) | split)
  rcases hex with rfl | ⟨u5, rfl⟩ | ⟨u5, u6, rfl⟩
  · refine go hc 0 (fun K hK => ?_)
    conv => whnf
    refine hK _ _ _ _ _ _ (go hc 31 (fun K hK => ?_))
    conv => whnf
    refine Or.inl ⟨rfl, ixv (k := i + 1) (ia (rfl : nI i = nI i) (rfl : (1 : Int32) = nI 1)) (show i + 1 < L by omega) (by omega), ?_⟩
    rw [ixc (k := i + 1) (ia (rfl : nI i = nI i) (rfl : (1 : Int32) = nI 1)) (by omega)]
    conv => whnf
    refine Or.inl ⟨rfl, ixv (k := i + 2) (ia (rfl : nI i = nI i) (rfl : (2 : Int32) = nI 2)) (show i + 2 < L by omega) (by omega), ?_⟩
    rw [ixc (k := i + 2) (ia (rfl : nI i = nI i) (rfl : (2 : Int32) = nI 2)) (by omega)]
    conv => whnf
    refine ⟨Nat.le_of_ble_eq_true rfl, ?_⟩
    conv => whnf
    refine callee hc (L_inc G hP hr ?_)
    intro W1 o1 h1 hr1 hP1 ho1
    conv => whnf
    refine Or.inl ⟨rfl, ixv (k := i + 1) (ia (rfl : nI i = nI i) (rfl : (1 : Int32) = nI 1)) (show i + 1 < L by omega) (by omega), ?_⟩
    rw [ixc (k := i + 1) (ia (rfl : nI i = nI i) (rfl : (1 : Int32) = nI 1)) (by omega)]
    conv => whnf
    refine Or.inl ⟨rfl, ixv (k := i + 2) (ia (rfl : nI i = nI i) (rfl : (2 : Int32) = nI 2)) (show i + 2 < L by omega) (by omega), ?_⟩
    rw [ixc (k := i + 2) (ia (rfl : nI i = nI i) (rfl : (2 : Int32) = nI 2)) (by omega)]
    conv => whnf
    obtain ⟨D, hm, back⟩ := hr1.model
    refine ⟨_, hm.M, Nat.le_of_ble_eq_true rfl, ?_⟩
    conv => whnf
    refine callee hc (e_includes hm rz bb0.1 ?_)
    intro m2 h2 hm rz2 c2
    have hr2 := back m2 h2 hm
    conv => whnf
    refine ⟨_, hm.M, Nat.le_of_ble_eq_true rfl, ?_⟩
    conv => whnf
    refine callee hc (e_thrown hm ?_)
    rw [mF_of c2]
    conv => whnf
    refine ⟨fun c_ => ?_, fun c_ => absurd rfl c_⟩
    conv => whnf
    refine hK _ _ _ _ _ _ (go hc 2 (fun K hK => ?_))
    conv => whnf
    by_cases cz : (rInc a (xs (i + 1)) (xs (i + 2))).1 = 0
    · rw [cz]
      have ho := ho1 cz
      refine ⟨fun c_ => ?_, fun c_ => absurd rfl c_⟩
      conv => whnf
      refine hK _ _ _ _ _ _ (go hc 5 (fun K hK => ?_))
      conv => whnf
      refine ⟨_, _, hr2.out, vp_in_nI (n := 0) (by omega) (by omega), ?_⟩
      conv => whnf
      have hbb : ((rInc a (xs (i + 1)) (xs (i + 2))).2.1 = 0 ∧ o1 0 = 0) ∨ ((rInc a (xs (i + 1)) (xs (i + 2))).2.1 ≠ 0 ∧ o1 0 = 1) := by
        rw [ho]
        exact inc_bit
      rcases hbb with ⟨h6, h7⟩ | ⟨h6, h7⟩
      · refine ⟨fun c_ => ?_, fun c_ => absurd h6 c_⟩
        conv => whnf
        refine hK _ _ _ _ _ _ (go hc 3 (fun K hK => ?_))
        conv => whnf
        refine ⟨fun c_ => ?_, fun c_ => absurd ((lg_cmp_eq _ _).mpr h7) c_⟩
        conv => whnf
        refine hK _ _ _ _ _ _ (go hc 3 (fun K hK => ?_))
        conv => whnf
        exact hK _ _ _ _ _ _ (by rw [i5]; exact next _ _ _ _ _ _ _ _ (Or.inr (Or.inr ⟨_, _, rfl⟩)) hP1 rz2 hr2 (subl rfl) (subs rfl))
      · refine ⟨fun c_ => absurd c_ h6, fun c_ => ?_⟩
        conv => whnf
        refine hK _ _ _ _ _ _ (go hc 4 (fun K hK => ?_))
        conv => whnf
        refine ⟨fun c_ => ?_, fun c_ => absurd ((lg_cmp_eq _ _).mpr h7) c_⟩
        conv => whnf
        refine hK _ _ _ _ _ _ (go hc 3 (fun K hK => ?_))
        conv => whnf
        exact hK _ _ _ _ _ _ (by rw [i5]; exact next _ _ _ _ _ _ _ _ (Or.inr (Or.inr ⟨_, _, rfl⟩)) hP1 rz2 hr2 (subl rfl) (subs rfl))
    · refine ⟨fun c_ => absurd c_ (nI_ne0 (Nat.pos_of_ne_zero cz) (hcode)), fun c_ => ?_⟩
      conv => whnf
      refine hK _ _ _ _ _ _ (go hc 3 (fun K hK => ?_))
      conv => whnf
      exact hK _ _ _ _ _ _ (by rw [i5]; exact next _ _ _ _ _ _ _ _ (Or.inr (Or.inr ⟨_, _, rfl⟩)) hP1 rz2 hr2 (subl rfl) (subs rfl))
  · refine go hc 0 (fun K hK => ?_)
    conv => whnf
    refine hK _ _ _ _ _ _ (go hc 31 (fun K hK => ?_))
    conv => whnf
    refine Or.inl ⟨rfl, ixv (k := i + 1) (ia (rfl : nI i = nI i) (rfl : (1 : Int32) = nI 1)) (show i + 1 < L by omega) (by omega), ?_⟩
    rw [ixc (k := i + 1) (ia (rfl : nI i = nI i) (rfl : (1 : Int32) = nI 1)) (by omega)]
    conv => whnf
    refine Or.inl ⟨rfl, ixv (k := i + 2) (ia (rfl : nI i = nI i) (rfl : (2 : Int32) = nI 2)) (show i + 2 < L by omega) (by omega), ?_⟩
    rw [ixc (k := i + 2) (ia (rfl : nI i = nI i) (rfl : (2 : Int32) = nI 2)) (by omega)]
    conv => whnf
    refine ⟨Nat.le_of_ble_eq_true rfl, ?_⟩
    conv => whnf
    refine callee hc (L_inc G hP hr ?_)
    intro W1 o1 h1 hr1 hP1 ho1
    conv => whnf
    refine Or.inl ⟨rfl, ixv (k := i + 1) (ia (rfl : nI i = nI i) (rfl : (1 : Int32) = nI 1)) (show i + 1 < L by omega) (by omega), ?_⟩
    rw [ixc (k := i + 1) (ia (rfl : nI i = nI i) (rfl : (1 : Int32) = nI 1)) (by omega)]
    conv => whnf
    refine Or.inl ⟨rfl, ixv (k := i + 2) (ia (rfl : nI i = nI i) (rfl : (2 : Int32) = nI 2)) (show i + 2 < L by omega) (by omega), ?_⟩
    rw [ixc (k := i + 2) (ia (rfl : nI i = nI i) (rfl : (2 : Int32) = nI 2)) (by omega)]
    conv => whnf
    obtain ⟨D, hm, back⟩ := hr1.model
    refine ⟨_, hm.M, Nat.le_of_ble_eq_true rfl, ?_⟩
    conv => whnf
    refine callee hc (e_includes hm rz bb0.1 ?_)
    intro m2 h2 hm rz2 c2
    have hr2 := back m2 h2 hm
    conv => whnf
    refine ⟨_, hm.M, Nat.le_of_ble_eq_true rfl, ?_⟩
    conv => whnf
    refine callee hc (e_thrown hm ?_)
    rw [mF_of c2]
    conv => whnf
    refine ⟨fun c_ => ?_, fun c_ => absurd rfl c_⟩
    conv => whnf
    refine hK _ _ _ _ _ _ (go hc 2 (fun K hK => ?_))
    conv => whnf
    by_cases cz : (rInc a (xs (i + 1)) (xs (i + 2))).1 = 0
    · rw [cz]
      have ho := ho1 cz
      refine ⟨fun c_ => ?_, fun c_ => absurd rfl c_⟩
      conv => whnf
      refine hK _ _ _ _ _ _ (go hc 5 (fun K hK => ?_))
      conv => whnf
      refine ⟨_, _, hr2.out, vp_in_nI (n := 0) (by omega) (by omega), ?_⟩
      conv => whnf
      have hbb : ((rInc a (xs (i + 1)) (xs (i + 2))).2.1 = 0 ∧ o1 0 = 0) ∨ ((rInc a (xs (i + 1)) (xs (i + 2))).2.1 ≠ 0 ∧ o1 0 = 1) := by
        rw [ho]
        exact inc_bit
      rcases hbb with ⟨h6, h7⟩ | ⟨h6, h7⟩
      · refine ⟨fun c_ => ?_, fun c_ => absurd h6 c_⟩
        conv => whnf
        refine hK _ _ _ _ _ _ (go hc 3 (fun K hK => ?_))
        conv => whnf
        refine ⟨fun c_ => ?_, fun c_ => absurd ((lg_cmp_eq _ _).mpr h7) c_⟩
        conv => whnf
        refine hK _ _ _ _ _ _ (go hc 3 (fun K hK => ?_))
        conv => whnf
        exact hK _ _ _ _ _ _ (by rw [i5]; exact next _ _ _ _ _ _ _ _ (Or.inr (Or.inr ⟨_, _, rfl⟩)) hP1 rz2 hr2 (subl rfl) (subs rfl))
      · refine ⟨fun c_ => absurd c_ h6, fun c_ => ?_⟩
        conv => whnf
        refine hK _ _ _ _ _ _ (go hc 4 (fun K hK => ?_))
        conv => whnf
        refine ⟨fun c_ => ?_, fun c_ => absurd ((lg_cmp_eq _ _).mpr h7) c_⟩
        conv => whnf
        refine hK _ _ _ _ _ _ (go hc 3 (fun K hK => ?_))
        conv => whnf
        exact hK _ _ _ _ _ _ (by rw [i5]; exact next _ _ _ _ _ _ _ _ (Or.inr (Or.inr ⟨_, _, rfl⟩)) hP1 rz2 hr2 (subl rfl) (subs rfl))
    · refine ⟨fun c_ => absurd c_ (nI_ne0 (Nat.pos_of_ne_zero cz) (hcode)), fun c_ => ?_⟩
      conv => whnf
      refine hK _ _ _ _ _ _ (go hc 3 (fun K hK => ?_))
      conv => whnf
      exact hK _ _ _ _ _ _ (by rw [i5]; exact next _ _ _ _ _ _ _ _ (Or.inr (Or.inr ⟨_, _, rfl⟩)) hP1 rz2 hr2 (subl rfl) (subs rfl))
  · refine go hc 0 (fun K hK => ?_)
    conv => whnf
    refine hK _ _ _ _ _ _ (go hc 31 (fun K hK => ?_))
    conv => whnf
    refine Or.inl ⟨rfl, ixv (k := i + 1) (ia (rfl : nI i = nI i) (rfl : (1 : Int32) = nI 1)) (show i + 1 < L by omega) (by omega), ?_⟩
    rw [ixc (k := i + 1) (ia (rfl : nI i = nI i) (rfl : (1 : Int32) = nI 1)) (by omega)]
    conv => whnf
    refine Or.inl ⟨rfl, ixv (k := i + 2) (ia (rfl : nI i = nI i) (rfl : (2 : Int32) = nI 2)) (show i + 2 < L by omega) (by omega), ?_⟩
    rw [ixc (k := i + 2) (ia (rfl : nI i = nI i) (rfl : (2 : Int32) = nI 2)) (by omega)]
    conv => whnf
    refine ⟨Nat.le_of_ble_eq_true rfl, ?_⟩
    conv => whnf
    refine callee hc (L_inc G hP hr ?_)
    intro W1 o1 h1 hr1 hP1 ho1
    conv => whnf
    refine Or.inl ⟨rfl, ixv (k := i + 1) (ia (rfl : nI i = nI i) (rfl : (1 : Int32) = nI 1)) (show i + 1 < L by omega) (by omega), ?_⟩
    rw [ixc (k := i + 1) (ia (rfl : nI i = nI i) (rfl : (1 : Int32) = nI 1)) (by omega)]
    conv => whnf
    refine Or.inl ⟨rfl, ixv (k := i + 2) (ia (rfl : nI i = nI i) (rfl : (2 : Int32) = nI 2)) (show i + 2 < L by omega) (by omega), ?_⟩
    rw [ixc (k := i + 2) (ia (rfl : nI i = nI i) (rfl : (2 : Int32) = nI 2)) (by omega)]
    conv => whnf
    obtain ⟨D, hm, back⟩ := hr1.model
    refine ⟨_, hm.M, Nat.le_of_ble_eq_true rfl, ?_⟩
    conv => whnf
    refine callee hc (e_includes hm rz bb0.1 ?_)
    intro m2 h2 hm rz2 c2
    have hr2 := back m2 h2 hm
    conv => whnf
    refine ⟨_, hm.M, Nat.le_of_ble_eq_true rfl, ?_⟩
    conv => whnf
    refine callee hc (e_thrown hm ?_)
    rw [mF_of c2]
    conv => whnf
    refine ⟨fun c_ => ?_, fun c_ => absurd rfl c_⟩
    conv => whnf
    refine hK _ _ _ _ _ _ (go hc 2 (fun K hK => ?_))
    conv => whnf
    by_cases cz : (rInc a (xs (i + 1)) (xs (i + 2))).1 = 0
    · rw [cz]
      have ho := ho1 cz
      refine ⟨fun c_ => ?_, fun c_ => absurd rfl c_⟩
      conv => whnf
      refine hK _ _ _ _ _ _ (go hc 5 (fun K hK => ?_))
      conv => whnf
      refine ⟨_, _, hr2.out, vp_in_nI (n := 0) (by omega) (by omega), ?_⟩
      conv => whnf
      have hbb : ((rInc a (xs (i + 1)) (xs (i + 2))).2.1 = 0 ∧ o1 0 = 0) ∨ ((rInc a (xs (i + 1)) (xs (i + 2))).2.1 ≠ 0 ∧ o1 0 = 1) := by
        rw [ho]
        exact inc_bit
      rcases hbb with ⟨h6, h7⟩ | ⟨h6, h7⟩
      · refine ⟨fun c_ => ?_, fun c_ => absurd h6 c_⟩
        conv => whnf
        refine hK _ _ _ _ _ _ (go hc 3 (fun K hK => ?_))
        conv => whnf
        refine ⟨fun c_ => ?_, fun c_ => absurd ((lg_cmp_eq _ _).mpr h7) c_⟩
        conv => whnf
        refine hK _ _ _ _ _ _ (go hc 3 (fun K hK => ?_))
        conv => whnf
        exact hK _ _ _ _ _ _ (by rw [i5]; exact next _ _ _ _ _ _ _ _ (Or.inr (Or.inr ⟨_, _, rfl⟩)) hP1 rz2 hr2 (subl rfl) (subs rfl))
      · refine ⟨fun c_ => absurd c_ h6, fun c_ => ?_⟩
        conv => whnf
        refine hK _ _ _ _ _ _ (go hc 4 (fun K hK => ?_))
        conv => whnf
        refine ⟨fun c_ => ?_, fun c_ => absurd ((lg_cmp_eq _ _).mpr h7) c_⟩
        conv => whnf
        refine hK _ _ _ _ _ _ (go hc 3 (fun K hK => ?_))
        conv => whnf
        exact hK _ _ _ _ _ _ (by rw [i5]; exact next _ _ _ _ _ _ _ _ (Or.inr (Or.inr ⟨_, _, rfl⟩)) hP1 rz2 hr2 (subl rfl) (subs rfl))
    · refine ⟨fun c_ => absurd c_ (nI_ne0 (Nat.pos_of_ne_zero cz) (hcode)), fun c_ => ?_⟩
      conv => whnf
      refine hK _ _ _ _ _ _ (go hc 3 (fun K hK => ?_))
      conv => whnf
      exact hK _ _ _ _ _ _ (by rw [i5]; exact next _ _ _ _ _ _ _ _ (Or.inr (Or.inr ⟨_, _, rfl⟩)) hP1 rz2 hr2 (subl rfl) (subs rfl))
theorem lw_dim {L : Nat} {xs : Nat → Int32} {call : Callee} (hc : call = wpC (L, xs) 11) (hL : L ≤ 320) (G : Good P) {i : Nat} (hi : i + 5 ≤ L) {W : AW} {a : RSt} {m : MM} {o : Nat → Int64} {h : PH} (hP : P W a) (rz : RZ m a) (hr : RepS W (toM m ++ [oA o]) h) {r s : Nat}
    {ex : LV} (hex : Hex ex) (next : ∀ W a m o h rc rs ex, Hex ex → P W a → RZ m a → RepS W (toM m ++ [oA o]) h → r ≤ rc → s ≤ rs → Runs 11 call (L, xs) m_L_law Ql 23 (hdL (i + 5) ex) [] h rc rs) :
    Runs 11 call (L, xs) m_L_law Ql 845 (hdL i ex) [] h (r + 20) (s + 100) := by
  have bb0 := (G.1 W a hP).1
  have hcode : (rDim a (xs (i + 1))).1 < 2 ^ 31 := by
    unfold rDim
    repeat (first | exact cd_fin _ _ _ _ _ (by decide) | (show 0 < 2 ^ 31; decide) | (show 1 < 2 ^ 31; decide) | (show 2 < 2 ^ 31; decide) | (show 3 < 2 ^ 31; decide) | split)
  rcases hex with rfl | ⟨u5, rfl⟩ | ⟨u5, u6, rfl⟩
  · refine go hc 0 (fun K hK => ?_)
    conv => whnf
    refine hK _ _ _ _ _ _ (go hc 21 (fun K hK => ?_))
    conv => whnf
    refine Or.inl ⟨rfl, ixv (k := i + 1) (ia (rfl : nI i = nI i) (rfl : (1 : Int32) = nI 1)) (show i + 1 < L by omega) (by omega), ?_⟩
    rw [ixc (k := i + 1) (ia (rfl : nI i = nI i) (rfl : (1 : Int32) = nI 1)) (by omega)]
    conv => whnf
    refine ⟨Nat.le_of_ble_eq_true rfl, ?_⟩
    conv => whnf
    refine callee hc (L_dim G hP hr ?_)
    intro W1 o1 h1 hr1 hP1 ho1
    conv => whnf
    refine Or.inl ⟨rfl, ixv (k := i + 1) (ia (rfl : nI i = nI i) (rfl : (1 : Int32) = nI 1)) (show i + 1 < L by omega) (by omega), ?_⟩
    rw [ixc (k := i + 1) (ia (rfl : nI i = nI i) (rfl : (1 : Int32) = nI 1)) (by omega)]
    conv => whnf
    obtain ⟨D, hm, back⟩ := hr1.model
    refine ⟨_, hm.M, Nat.le_of_ble_eq_true rfl, ?_⟩
    conv => whnf
    refine callee hc (e_dimension hm rz ?_)
    intro m2 h2 hm rz2 c2
    have hr2 := back m2 h2 hm
    conv => whnf
    refine ⟨_, hm.M, Nat.le_of_ble_eq_true rfl, ?_⟩
    conv => whnf
    refine callee hc (e_thrown hm ?_)
    rw [mF_of c2]
    conv => whnf
    refine ⟨fun c_ => ?_, fun c_ => absurd rfl c_⟩
    conv => whnf
    refine hK _ _ _ _ _ _ (go hc 2 (fun K hK => ?_))
    conv => whnf
    by_cases cz : (rDim a (xs (i + 1))).1 = 0
    · rw [cz]
      have ho := ho1 cz
      refine ⟨fun c_ => ?_, fun c_ => absurd rfl c_⟩
      conv => whnf
      refine hK _ _ _ _ _ _ (go hc 7 (fun K hK => ?_))
      conv => whnf
      refine ⟨_, _, hr2.out, vp_in_nI (n := 0) (by omega) (by omega), ?_⟩
      conv => whnf
      refine ⟨fun c_ => ?_, fun c_ => absurd ((lg_cmp_eq _ _).mpr ho) c_⟩
      conv => whnf
      refine hK _ _ _ _ _ _ (go hc 3 (fun K hK => ?_))
      conv => whnf
      exact hK _ _ _ _ _ _ (by rw [i5]; exact next _ _ _ _ _ _ _ _ (Or.inr (Or.inr ⟨_, _, rfl⟩)) hP1 rz2 hr2 (subl rfl) (subs rfl))
    · refine ⟨fun c_ => absurd c_ (nI_ne0 (Nat.pos_of_ne_zero cz) (hcode)), fun c_ => ?_⟩
      conv => whnf
      refine hK _ _ _ _ _ _ (go hc 3 (fun K hK => ?_))
      conv => whnf
      exact hK _ _ _ _ _ _ (by rw [i5]; exact next _ _ _ _ _ _ _ _ (Or.inr (Or.inr ⟨_, _, rfl⟩)) hP1 rz2 hr2 (subl rfl) (subs rfl))
  · refine go hc 0 (fun K hK => ?_)
    conv => whnf
    refine hK _ _ _ _ _ _ (go hc 21 (fun K hK => ?_))
    conv => whnf
    refine Or.inl ⟨rfl, ixv (k := i + 1) (ia (rfl : nI i = nI i) (rfl : (1 : Int32) = nI 1)) (show i + 1 < L by omega) (by omega), ?_⟩
    rw [ixc (k := i + 1) (ia (rfl : nI i = nI i) (rfl : (1 : Int32) = nI 1)) (by omega)]
    conv => whnf
    refine ⟨Nat.le_of_ble_eq_true rfl, ?_⟩
    conv => whnf
    refine callee hc (L_dim G hP hr ?_)
    intro W1 o1 h1 hr1 hP1 ho1
    conv => whnf
    refine Or.inl ⟨rfl, ixv (k := i + 1) (ia (rfl : nI i = nI i) (rfl : (1 : Int32) = nI 1)) (show i + 1 < L by omega) (by omega), ?_⟩
    rw [ixc (k := i + 1) (ia (rfl : nI i = nI i) (rfl : (1 : Int32) = nI 1)) (by omega)]
    conv => whnf
    obtain ⟨D, hm, back⟩ := hr1.model
    refine ⟨_, hm.M, Nat.le_of_ble_eq_true rfl, ?_⟩
    conv => whnf
    refine callee hc (e_dimension hm rz ?_)
    intro m2 h2 hm rz2 c2
    have hr2 := back m2 h2 hm
    conv => whnf
    refine ⟨_, hm.M, Nat.le_of_ble_eq_true rfl, ?_⟩
    conv => whnf
    refine callee hc (e_thrown hm ?_)
    rw [mF_of c2]
    conv => whnf
    refine ⟨fun c_ => ?_, fun c_ => absurd rfl c_⟩
    conv => whnf
    refine hK _ _ _ _ _ _ (go hc 2 (fun K hK => ?_))
    conv => whnf
    by_cases cz : (rDim a (xs (i + 1))).1 = 0
    · rw [cz]
      have ho := ho1 cz
      refine ⟨fun c_ => ?_, fun c_ => absurd rfl c_⟩
      conv => whnf
      refine hK _ _ _ _ _ _ (go hc 7 (fun K hK => ?_))
      conv => whnf
      refine ⟨_, _, hr2.out, vp_in_nI (n := 0) (by omega) (by omega), ?_⟩
      conv => whnf
      refine ⟨fun c_ => ?_, fun c_ => absurd ((lg_cmp_eq _ _).mpr ho) c_⟩
      conv => whnf
      refine hK _ _ _ _ _ _ (go hc 3 (fun K hK => ?_))
      conv => whnf
      exact hK _ _ _ _ _ _ (by rw [i5]; exact next _ _ _ _ _ _ _ _ (Or.inr (Or.inr ⟨_, _, rfl⟩)) hP1 rz2 hr2 (subl rfl) (subs rfl))
    · refine ⟨fun c_ => absurd c_ (nI_ne0 (Nat.pos_of_ne_zero cz) (hcode)), fun c_ => ?_⟩
      conv => whnf
      refine hK _ _ _ _ _ _ (go hc 3 (fun K hK => ?_))
      conv => whnf
      exact hK _ _ _ _ _ _ (by rw [i5]; exact next _ _ _ _ _ _ _ _ (Or.inr (Or.inr ⟨_, _, rfl⟩)) hP1 rz2 hr2 (subl rfl) (subs rfl))
  · refine go hc 0 (fun K hK => ?_)
    conv => whnf
    refine hK _ _ _ _ _ _ (go hc 21 (fun K hK => ?_))
    conv => whnf
    refine Or.inl ⟨rfl, ixv (k := i + 1) (ia (rfl : nI i = nI i) (rfl : (1 : Int32) = nI 1)) (show i + 1 < L by omega) (by omega), ?_⟩
    rw [ixc (k := i + 1) (ia (rfl : nI i = nI i) (rfl : (1 : Int32) = nI 1)) (by omega)]
    conv => whnf
    refine ⟨Nat.le_of_ble_eq_true rfl, ?_⟩
    conv => whnf
    refine callee hc (L_dim G hP hr ?_)
    intro W1 o1 h1 hr1 hP1 ho1
    conv => whnf
    refine Or.inl ⟨rfl, ixv (k := i + 1) (ia (rfl : nI i = nI i) (rfl : (1 : Int32) = nI 1)) (show i + 1 < L by omega) (by omega), ?_⟩
    rw [ixc (k := i + 1) (ia (rfl : nI i = nI i) (rfl : (1 : Int32) = nI 1)) (by omega)]
    conv => whnf
    obtain ⟨D, hm, back⟩ := hr1.model
    refine ⟨_, hm.M, Nat.le_of_ble_eq_true rfl, ?_⟩
    conv => whnf
    refine callee hc (e_dimension hm rz ?_)
    intro m2 h2 hm rz2 c2
    have hr2 := back m2 h2 hm
    conv => whnf
    refine ⟨_, hm.M, Nat.le_of_ble_eq_true rfl, ?_⟩
    conv => whnf
    refine callee hc (e_thrown hm ?_)
    rw [mF_of c2]
    conv => whnf
    refine ⟨fun c_ => ?_, fun c_ => absurd rfl c_⟩
    conv => whnf
    refine hK _ _ _ _ _ _ (go hc 2 (fun K hK => ?_))
    conv => whnf
    by_cases cz : (rDim a (xs (i + 1))).1 = 0
    · rw [cz]
      have ho := ho1 cz
      refine ⟨fun c_ => ?_, fun c_ => absurd rfl c_⟩
      conv => whnf
      refine hK _ _ _ _ _ _ (go hc 7 (fun K hK => ?_))
      conv => whnf
      refine ⟨_, _, hr2.out, vp_in_nI (n := 0) (by omega) (by omega), ?_⟩
      conv => whnf
      refine ⟨fun c_ => ?_, fun c_ => absurd ((lg_cmp_eq _ _).mpr ho) c_⟩
      conv => whnf
      refine hK _ _ _ _ _ _ (go hc 3 (fun K hK => ?_))
      conv => whnf
      exact hK _ _ _ _ _ _ (by rw [i5]; exact next _ _ _ _ _ _ _ _ (Or.inr (Or.inr ⟨_, _, rfl⟩)) hP1 rz2 hr2 (subl rfl) (subs rfl))
    · refine ⟨fun c_ => absurd c_ (nI_ne0 (Nat.pos_of_ne_zero cz) (hcode)), fun c_ => ?_⟩
      conv => whnf
      refine hK _ _ _ _ _ _ (go hc 3 (fun K hK => ?_))
      conv => whnf
      exact hK _ _ _ _ _ _ (by rw [i5]; exact next _ _ _ _ _ _ _ _ (Or.inr (Or.inr ⟨_, _, rfl⟩)) hP1 rz2 hr2 (subl rfl) (subs rfl))
theorem lw_rows {L : Nat} {xs : Nat → Int32} {call : Callee} (hc : call = wpC (L, xs) 11) (hL : L ≤ 320) (G : Good P) {i : Nat} (hi : i + 5 ≤ L) {W : AW} {a : RSt} {m : MM} {o : Nat → Int64} {h : PH} (hP : P W a) (rz : RZ m a) (hr : RepS W (toM m ++ [oA o]) h) {r s : Nat}
    {ex : LV} (hex : Hex ex) (next : ∀ W a m o h rc rs ex, Hex ex → P W a → RZ m a → RepS W (toM m ++ [oA o]) h → r ≤ rc → s ≤ rs → Runs 11 call (L, xs) m_L_law Ql 23 (hdL (i + 5) ex) [] h rc rs) :
    Runs 11 call (L, xs) m_L_law Ql 901 (hdL i ex) [] h (r + 20) (s + 100) := by
  have bb0 := (G.1 W a hP).1
  have hcode : (rRows a (xs (i + 1)) (xs (i + 2))).1 < 2 ^ 31 := by
    unfold rRows
    repeat (first | exact cd_fin _ _ _ _ _ (by decide) | (show 0 < 2 ^ 31; decide) | (show 1 < 2 ^ 31; decide) | (show 2 < 2 ^ 31; decide) | (show 3 < 2 ^ 31; decide) | split)
  rcases hex with rfl | ⟨u5, rfl⟩ | ⟨u5, u6, rfl⟩
  · refine go hc 0 (fun K hK => ?_)
    conv => whnf
    refine hK _ _ _ _ _ _ (go hc 31 (fun K hK => ?_))
    conv => whnf
    refine Or.inl ⟨rfl, ixv (k := i + 1) (ia (rfl : nI i = nI i) (rfl : (1 : Int32) = nI 1)) (show i + 1 < L by omega) (by omega), ?_⟩
    rw [ixc (k := i + 1) (ia (rfl : nI i = nI i) (rfl : (1 : Int32) = nI 1)) (by omega)]
    conv => whnf
    refine Or.inl ⟨rfl, ixv (k := i + 2) (ia (rfl : nI i = nI i) (rfl : (2 : Int32) = nI 2)) (show i + 2 < L by omega) (by omega), ?_⟩
    rw [ixc (k := i + 2) (ia (rfl : nI i = nI i) (rfl : (2 : Int32) = nI 2)) (by omega)]
    conv => whnf
    refine ⟨Nat.le_of_ble_eq_true rfl, ?_⟩
    conv => whnf
    refine callee hc (L_rows G hP hr ?_)
    intro W1 o1 h1 hr1 hP1 ho1
    conv => whnf
    refine Or.inl ⟨rfl, ixv (k := i + 1) (ia (rfl : nI i = nI i) (rfl : (1 : Int32) = nI 1)) (show i + 1 < L by omega) (by omega), ?_⟩
    rw [ixc (k := i + 1) (ia (rfl : nI i = nI i) (rfl : (1 : Int32) = nI 1)) (by omega)]
    conv => whnf
    refine Or.inl ⟨rfl, ixv (k := i + 2) (ia (rfl : nI i = nI i) (rfl : (2 : Int32) = nI 2)) (show i + 2 < L by omega) (by omega), ?_⟩
    rw [ixc (k := i + 2) (ia (rfl : nI i = nI i) (rfl : (2 : Int32) = nI 2)) (by omega)]
    conv => whnf
    obtain ⟨D, hm, back⟩ := hr1.model
    refine ⟨_, hm.M, Nat.le_of_ble_eq_true rfl, ?_⟩
    conv => whnf
    refine callee hc (e_rows hm rz ?_)
    intro m2 h2 hm rz2 c2
    have hr2 := back m2 h2 hm
    conv => whnf
    refine ⟨_, hm.M, Nat.le_of_ble_eq_true rfl, ?_⟩
    conv => whnf
    refine callee hc (e_thrown hm ?_)
    rw [mF_of c2]
    conv => whnf
    refine ⟨fun c_ => ?_, fun c_ => absurd rfl c_⟩
    conv => whnf
    refine hK _ _ _ _ _ _ (go hc 2 (fun K hK => ?_))
    conv => whnf
    by_cases cz : (rRows a (xs (i + 1)) (xs (i + 2))).1 = 0
    · rw [cz]
      have ho := ho1 cz
      refine ⟨fun c_ => ?_, fun c_ => absurd rfl c_⟩
      conv => whnf
      refine hK _ _ _ _ _ _ (go hc 7 (fun K hK => ?_))
      conv => whnf
      refine ⟨_, _, hr2.out, vp_in_nI (n := 0) (by omega) (by omega), ?_⟩
      conv => whnf
      refine ⟨fun c_ => ?_, fun c_ => absurd ((lg_cmp_eq _ _).mpr ho) c_⟩
      conv => whnf
      refine hK _ _ _ _ _ _ (go hc 3 (fun K hK => ?_))
      conv => whnf
      exact hK _ _ _ _ _ _ (by rw [i5]; exact next _ _ _ _ _ _ _ _ (Or.inr (Or.inr ⟨_, _, rfl⟩)) hP1 rz2 hr2 (subl rfl) (subs rfl))
    · refine ⟨fun c_ => absurd c_ (nI_ne0 (Nat.pos_of_ne_zero cz) (hcode)), fun c_ => ?_⟩
      conv => whnf
      refine hK _ _ _ _ _ _ (go hc 3 (fun K hK => ?_))
      conv => whnf
      exact hK _ _ _ _ _ _ (by rw [i5]; exact next _ _ _ _ _ _ _ _ (Or.inr (Or.inr ⟨_, _, rfl⟩)) hP1 rz2 hr2 (subl rfl) (subs rfl))
  · refine go hc 0 (fun K hK => ?_)
    conv => whnf
    refine hK _ _ _ _ _ _ (go hc 31 (fun K hK => ?_))
    conv => whnf
    refine Or.inl ⟨rfl, ixv (k := i + 1) (ia (rfl : nI i = nI i) (rfl : (1 : Int32) = nI 1)) (show i + 1 < L by omega) (by omega), ?_⟩
    rw [ixc (k := i + 1) (ia (rfl : nI i = nI i) (rfl : (1 : Int32) = nI 1)) (by omega)]
    conv => whnf
    refine Or.inl ⟨rfl, ixv (k := i + 2) (ia (rfl : nI i = nI i) (rfl : (2 : Int32) = nI 2)) (show i + 2 < L by omega) (by omega), ?_⟩
    rw [ixc (k := i + 2) (ia (rfl : nI i = nI i) (rfl : (2 : Int32) = nI 2)) (by omega)]
    conv => whnf
    refine ⟨Nat.le_of_ble_eq_true rfl, ?_⟩
    conv => whnf
    refine callee hc (L_rows G hP hr ?_)
    intro W1 o1 h1 hr1 hP1 ho1
    conv => whnf
    refine Or.inl ⟨rfl, ixv (k := i + 1) (ia (rfl : nI i = nI i) (rfl : (1 : Int32) = nI 1)) (show i + 1 < L by omega) (by omega), ?_⟩
    rw [ixc (k := i + 1) (ia (rfl : nI i = nI i) (rfl : (1 : Int32) = nI 1)) (by omega)]
    conv => whnf
    refine Or.inl ⟨rfl, ixv (k := i + 2) (ia (rfl : nI i = nI i) (rfl : (2 : Int32) = nI 2)) (show i + 2 < L by omega) (by omega), ?_⟩
    rw [ixc (k := i + 2) (ia (rfl : nI i = nI i) (rfl : (2 : Int32) = nI 2)) (by omega)]
    conv => whnf
    obtain ⟨D, hm, back⟩ := hr1.model
    refine ⟨_, hm.M, Nat.le_of_ble_eq_true rfl, ?_⟩
    conv => whnf
    refine callee hc (e_rows hm rz ?_)
    intro m2 h2 hm rz2 c2
    have hr2 := back m2 h2 hm
    conv => whnf
    refine ⟨_, hm.M, Nat.le_of_ble_eq_true rfl, ?_⟩
    conv => whnf
    refine callee hc (e_thrown hm ?_)
    rw [mF_of c2]
    conv => whnf
    refine ⟨fun c_ => ?_, fun c_ => absurd rfl c_⟩
    conv => whnf
    refine hK _ _ _ _ _ _ (go hc 2 (fun K hK => ?_))
    conv => whnf
    by_cases cz : (rRows a (xs (i + 1)) (xs (i + 2))).1 = 0
    · rw [cz]
      have ho := ho1 cz
      refine ⟨fun c_ => ?_, fun c_ => absurd rfl c_⟩
      conv => whnf
      refine hK _ _ _ _ _ _ (go hc 7 (fun K hK => ?_))
      conv => whnf
      refine ⟨_, _, hr2.out, vp_in_nI (n := 0) (by omega) (by omega), ?_⟩
      conv => whnf
      refine ⟨fun c_ => ?_, fun c_ => absurd ((lg_cmp_eq _ _).mpr ho) c_⟩
      conv => whnf
      refine hK _ _ _ _ _ _ (go hc 3 (fun K hK => ?_))
      conv => whnf
      exact hK _ _ _ _ _ _ (by rw [i5]; exact next _ _ _ _ _ _ _ _ (Or.inr (Or.inr ⟨_, _, rfl⟩)) hP1 rz2 hr2 (subl rfl) (subs rfl))
    · refine ⟨fun c_ => absurd c_ (nI_ne0 (Nat.pos_of_ne_zero cz) (hcode)), fun c_ => ?_⟩
      conv => whnf
      refine hK _ _ _ _ _ _ (go hc 3 (fun K hK => ?_))
      conv => whnf
      exact hK _ _ _ _ _ _ (by rw [i5]; exact next _ _ _ _ _ _ _ _ (Or.inr (Or.inr ⟨_, _, rfl⟩)) hP1 rz2 hr2 (subl rfl) (subs rfl))
  · refine go hc 0 (fun K hK => ?_)
    conv => whnf
    refine hK _ _ _ _ _ _ (go hc 31 (fun K hK => ?_))
    conv => whnf
    refine Or.inl ⟨rfl, ixv (k := i + 1) (ia (rfl : nI i = nI i) (rfl : (1 : Int32) = nI 1)) (show i + 1 < L by omega) (by omega), ?_⟩
    rw [ixc (k := i + 1) (ia (rfl : nI i = nI i) (rfl : (1 : Int32) = nI 1)) (by omega)]
    conv => whnf
    refine Or.inl ⟨rfl, ixv (k := i + 2) (ia (rfl : nI i = nI i) (rfl : (2 : Int32) = nI 2)) (show i + 2 < L by omega) (by omega), ?_⟩
    rw [ixc (k := i + 2) (ia (rfl : nI i = nI i) (rfl : (2 : Int32) = nI 2)) (by omega)]
    conv => whnf
    refine ⟨Nat.le_of_ble_eq_true rfl, ?_⟩
    conv => whnf
    refine callee hc (L_rows G hP hr ?_)
    intro W1 o1 h1 hr1 hP1 ho1
    conv => whnf
    refine Or.inl ⟨rfl, ixv (k := i + 1) (ia (rfl : nI i = nI i) (rfl : (1 : Int32) = nI 1)) (show i + 1 < L by omega) (by omega), ?_⟩
    rw [ixc (k := i + 1) (ia (rfl : nI i = nI i) (rfl : (1 : Int32) = nI 1)) (by omega)]
    conv => whnf
    refine Or.inl ⟨rfl, ixv (k := i + 2) (ia (rfl : nI i = nI i) (rfl : (2 : Int32) = nI 2)) (show i + 2 < L by omega) (by omega), ?_⟩
    rw [ixc (k := i + 2) (ia (rfl : nI i = nI i) (rfl : (2 : Int32) = nI 2)) (by omega)]
    conv => whnf
    obtain ⟨D, hm, back⟩ := hr1.model
    refine ⟨_, hm.M, Nat.le_of_ble_eq_true rfl, ?_⟩
    conv => whnf
    refine callee hc (e_rows hm rz ?_)
    intro m2 h2 hm rz2 c2
    have hr2 := back m2 h2 hm
    conv => whnf
    refine ⟨_, hm.M, Nat.le_of_ble_eq_true rfl, ?_⟩
    conv => whnf
    refine callee hc (e_thrown hm ?_)
    rw [mF_of c2]
    conv => whnf
    refine ⟨fun c_ => ?_, fun c_ => absurd rfl c_⟩
    conv => whnf
    refine hK _ _ _ _ _ _ (go hc 2 (fun K hK => ?_))
    conv => whnf
    by_cases cz : (rRows a (xs (i + 1)) (xs (i + 2))).1 = 0
    · rw [cz]
      have ho := ho1 cz
      refine ⟨fun c_ => ?_, fun c_ => absurd rfl c_⟩
      conv => whnf
      refine hK _ _ _ _ _ _ (go hc 7 (fun K hK => ?_))
      conv => whnf
      refine ⟨_, _, hr2.out, vp_in_nI (n := 0) (by omega) (by omega), ?_⟩
      conv => whnf
      refine ⟨fun c_ => ?_, fun c_ => absurd ((lg_cmp_eq _ _).mpr ho) c_⟩
      conv => whnf
      refine hK _ _ _ _ _ _ (go hc 3 (fun K hK => ?_))
      conv => whnf
      exact hK _ _ _ _ _ _ (by rw [i5]; exact next _ _ _ _ _ _ _ _ (Or.inr (Or.inr ⟨_, _, rfl⟩)) hP1 rz2 hr2 (subl rfl) (subs rfl))
    · refine ⟨fun c_ => absurd c_ (nI_ne0 (Nat.pos_of_ne_zero cz) (hcode)), fun c_ => ?_⟩
      conv => whnf
      refine hK _ _ _ _ _ _ (go hc 3 (fun K hK => ?_))
      conv => whnf
      exact hK _ _ _ _ _ _ (by rw [i5]; exact next _ _ _ _ _ _ _ _ (Or.inr (Or.inr ⟨_, _, rfl⟩)) hP1 rz2 hr2 (subl rfl) (subs rfl))
theorem lw_row {L : Nat} {xs : Nat → Int32} {call : Callee} (hc : call = wpC (L, xs) 11) (hL : L ≤ 320) (G : Good P) {i : Nat} (hi : i + 5 ≤ L) {W : AW} {a : RSt} {m : MM} {o : Nat → Int64} {h : PH} (hP : P W a) (rz : RZ m a) (hr : RepS W (toM m ++ [oA o]) h) {r s : Nat}
    {ex : LV} (hex : Hex ex) (next : ∀ W a m o h rc rs ex, Hex ex → P W a → RZ m a → RepS W (toM m ++ [oA o]) h → r ≤ rc → s ≤ rs → Runs 11 call (L, xs) m_L_law Ql 23 (hdL (i + 5) ex) [] h rc rs) :
    Runs 11 call (L, xs) m_L_law Ql 969 (hdL i ex) [] h (r + 20) (s + 100) := by
  have bb0 := (G.1 W a hP).1
  have hcode : (rRow a (xs (i + 1)) (xs (i + 2)) (xs (i + 3)) (xs (i + 4))).1 < 2 ^ 31 := by
    unfold rRow
    repeat (first | exact cd_fin _ _ _ _ _ (by decide) | (show 0 < 2 ^ 31; decide) | (show 1 < 2 ^ 31; decide) | (show 2 < 2 ^ 31; decide) | (show 3 < 2 ^ 31; decide) | split)
  rcases hex with rfl | ⟨u5, rfl⟩ | ⟨u5, u6, rfl⟩
  · refine go hc 0 (fun K hK => ?_)
    conv => whnf
    refine hK _ _ _ _ _ _ (go hc 51 (fun K hK => ?_))
    conv => whnf
    refine Or.inl ⟨rfl, ixv (k := i + 1) (ia (rfl : nI i = nI i) (rfl : (1 : Int32) = nI 1)) (show i + 1 < L by omega) (by omega), ?_⟩
    rw [ixc (k := i + 1) (ia (rfl : nI i = nI i) (rfl : (1 : Int32) = nI 1)) (by omega)]
    conv => whnf
    refine Or.inl ⟨rfl, ixv (k := i + 2) (ia (rfl : nI i = nI i) (rfl : (2 : Int32) = nI 2)) (show i + 2 < L by omega) (by omega), ?_⟩
    rw [ixc (k := i + 2) (ia (rfl : nI i = nI i) (rfl : (2 : Int32) = nI 2)) (by omega)]
    conv => whnf
    refine Or.inl ⟨rfl, ixv (k := i + 3) (ia (rfl : nI i = nI i) (rfl : (3 : Int32) = nI 3)) (show i + 3 < L by omega) (by omega), ?_⟩
    rw [ixc (k := i + 3) (ia (rfl : nI i = nI i) (rfl : (3 : Int32) = nI 3)) (by omega)]
    conv => whnf
    refine Or.inl ⟨rfl, ixv (k := i + 4) (ia (rfl : nI i = nI i) (rfl : (4 : Int32) = nI 4)) (show i + 4 < L by omega) (by omega), ?_⟩
    rw [ixc (k := i + 4) (ia (rfl : nI i = nI i) (rfl : (4 : Int32) = nI 4)) (by omega)]
    conv => whnf
    refine ⟨Nat.le_of_ble_eq_true rfl, ?_⟩
    conv => whnf
    refine callee hc (L_row G hP hr ?_)
    intro W1 o1 h1 hr1 hP1 ho1
    conv => whnf
    refine Or.inl ⟨rfl, ixv (k := i + 1) (ia (rfl : nI i = nI i) (rfl : (1 : Int32) = nI 1)) (show i + 1 < L by omega) (by omega), ?_⟩
    rw [ixc (k := i + 1) (ia (rfl : nI i = nI i) (rfl : (1 : Int32) = nI 1)) (by omega)]
    conv => whnf
    refine Or.inl ⟨rfl, ixv (k := i + 2) (ia (rfl : nI i = nI i) (rfl : (2 : Int32) = nI 2)) (show i + 2 < L by omega) (by omega), ?_⟩
    rw [ixc (k := i + 2) (ia (rfl : nI i = nI i) (rfl : (2 : Int32) = nI 2)) (by omega)]
    conv => whnf
    refine Or.inl ⟨rfl, ixv (k := i + 3) (ia (rfl : nI i = nI i) (rfl : (3 : Int32) = nI 3)) (show i + 3 < L by omega) (by omega), ?_⟩
    rw [ixc (k := i + 3) (ia (rfl : nI i = nI i) (rfl : (3 : Int32) = nI 3)) (by omega)]
    conv => whnf
    refine Or.inl ⟨rfl, ixv (k := i + 4) (ia (rfl : nI i = nI i) (rfl : (4 : Int32) = nI 4)) (show i + 4 < L by omega) (by omega), ?_⟩
    rw [ixc (k := i + 4) (ia (rfl : nI i = nI i) (rfl : (4 : Int32) = nI 4)) (by omega)]
    conv => whnf
    obtain ⟨D, hm, back⟩ := hr1.model
    refine ⟨_, hm.M, Nat.le_of_ble_eq_true rfl, ?_⟩
    conv => whnf
    refine callee hc (e_row hm rz ?_)
    intro m2 h2 hm rz2 c2
    have hr2 := back m2 h2 hm
    conv => whnf
    refine ⟨_, hm.M, Nat.le_of_ble_eq_true rfl, ?_⟩
    conv => whnf
    refine callee hc (e_thrown hm ?_)
    rw [mF_of c2]
    conv => whnf
    refine ⟨fun c_ => ?_, fun c_ => absurd rfl c_⟩
    conv => whnf
    refine hK _ _ _ _ _ _ (go hc 2 (fun K hK => ?_))
    conv => whnf
    by_cases cz : (rRow a (xs (i + 1)) (xs (i + 2)) (xs (i + 3)) (xs (i + 4))).1 = 0
    · rw [cz]
      have ho := ho1 cz
      refine ⟨fun c_ => ?_, fun c_ => absurd rfl c_⟩
      conv => whnf
      refine hK _ _ _ _ _ _ (go hc 7 (fun K hK => ?_))
      conv => whnf
      refine ⟨_, _, hr2.out, vp_in_nI (n := 0) (by omega) (by omega), ?_⟩
      conv => whnf
      refine ⟨fun c_ => ?_, fun c_ => absurd ((lg_cmp_eq _ _).mpr ho) c_⟩
      conv => whnf
      refine hK _ _ _ _ _ _ (go hc 3 (fun K hK => ?_))
      conv => whnf
      exact hK _ _ _ _ _ _ (by rw [i5]; exact next _ _ _ _ _ _ _ _ (Or.inr (Or.inr ⟨_, _, rfl⟩)) hP1 rz2 hr2 (subl rfl) (subs rfl))
    · refine ⟨fun c_ => absurd c_ (nI_ne0 (Nat.pos_of_ne_zero cz) (hcode)), fun c_ => ?_⟩
      conv => whnf
      refine hK _ _ _ _ _ _ (go hc 3 (fun K hK => ?_))
      conv => whnf
      exact hK _ _ _ _ _ _ (by rw [i5]; exact next _ _ _ _ _ _ _ _ (Or.inr (Or.inr ⟨_, _, rfl⟩)) hP1 rz2 hr2 (subl rfl) (subs rfl))
  · refine go hc 0 (fun K hK => ?_)
    conv => whnf
    refine hK _ _ _ _ _ _ (go hc 51 (fun K hK => ?_))
    conv => whnf
    refine Or.inl ⟨rfl, ixv (k := i + 1) (ia (rfl : nI i = nI i) (rfl : (1 : Int32) = nI 1)) (show i + 1 < L by omega) (by omega), ?_⟩
    rw [ixc (k := i + 1) (ia (rfl : nI i = nI i) (rfl : (1 : Int32) = nI 1)) (by omega)]
    conv => whnf
    refine Or.inl ⟨rfl, ixv (k := i + 2) (ia (rfl : nI i = nI i) (rfl : (2 : Int32) = nI 2)) (show i + 2 < L by omega) (by omega), ?_⟩
    rw [ixc (k := i + 2) (ia (rfl : nI i = nI i) (rfl : (2 : Int32) = nI 2)) (by omega)]
    conv => whnf
    refine Or.inl ⟨rfl, ixv (k := i + 3) (ia (rfl : nI i = nI i) (rfl : (3 : Int32) = nI 3)) (show i + 3 < L by omega) (by omega), ?_⟩
    rw [ixc (k := i + 3) (ia (rfl : nI i = nI i) (rfl : (3 : Int32) = nI 3)) (by omega)]
    conv => whnf
    refine Or.inl ⟨rfl, ixv (k := i + 4) (ia (rfl : nI i = nI i) (rfl : (4 : Int32) = nI 4)) (show i + 4 < L by omega) (by omega), ?_⟩
    rw [ixc (k := i + 4) (ia (rfl : nI i = nI i) (rfl : (4 : Int32) = nI 4)) (by omega)]
    conv => whnf
    refine ⟨Nat.le_of_ble_eq_true rfl, ?_⟩
    conv => whnf
    refine callee hc (L_row G hP hr ?_)
    intro W1 o1 h1 hr1 hP1 ho1
    conv => whnf
    refine Or.inl ⟨rfl, ixv (k := i + 1) (ia (rfl : nI i = nI i) (rfl : (1 : Int32) = nI 1)) (show i + 1 < L by omega) (by omega), ?_⟩
    rw [ixc (k := i + 1) (ia (rfl : nI i = nI i) (rfl : (1 : Int32) = nI 1)) (by omega)]
    conv => whnf
    refine Or.inl ⟨rfl, ixv (k := i + 2) (ia (rfl : nI i = nI i) (rfl : (2 : Int32) = nI 2)) (show i + 2 < L by omega) (by omega), ?_⟩
    rw [ixc (k := i + 2) (ia (rfl : nI i = nI i) (rfl : (2 : Int32) = nI 2)) (by omega)]
    conv => whnf
    refine Or.inl ⟨rfl, ixv (k := i + 3) (ia (rfl : nI i = nI i) (rfl : (3 : Int32) = nI 3)) (show i + 3 < L by omega) (by omega), ?_⟩
    rw [ixc (k := i + 3) (ia (rfl : nI i = nI i) (rfl : (3 : Int32) = nI 3)) (by omega)]
    conv => whnf
    refine Or.inl ⟨rfl, ixv (k := i + 4) (ia (rfl : nI i = nI i) (rfl : (4 : Int32) = nI 4)) (show i + 4 < L by omega) (by omega), ?_⟩
    rw [ixc (k := i + 4) (ia (rfl : nI i = nI i) (rfl : (4 : Int32) = nI 4)) (by omega)]
    conv => whnf
    obtain ⟨D, hm, back⟩ := hr1.model
    refine ⟨_, hm.M, Nat.le_of_ble_eq_true rfl, ?_⟩
    conv => whnf
    refine callee hc (e_row hm rz ?_)
    intro m2 h2 hm rz2 c2
    have hr2 := back m2 h2 hm
    conv => whnf
    refine ⟨_, hm.M, Nat.le_of_ble_eq_true rfl, ?_⟩
    conv => whnf
    refine callee hc (e_thrown hm ?_)
    rw [mF_of c2]
    conv => whnf
    refine ⟨fun c_ => ?_, fun c_ => absurd rfl c_⟩
    conv => whnf
    refine hK _ _ _ _ _ _ (go hc 2 (fun K hK => ?_))
    conv => whnf
    by_cases cz : (rRow a (xs (i + 1)) (xs (i + 2)) (xs (i + 3)) (xs (i + 4))).1 = 0
    · rw [cz]
      have ho := ho1 cz
      refine ⟨fun c_ => ?_, fun c_ => absurd rfl c_⟩
      conv => whnf
      refine hK _ _ _ _ _ _ (go hc 7 (fun K hK => ?_))
      conv => whnf
      refine ⟨_, _, hr2.out, vp_in_nI (n := 0) (by omega) (by omega), ?_⟩
      conv => whnf
      refine ⟨fun c_ => ?_, fun c_ => absurd ((lg_cmp_eq _ _).mpr ho) c_⟩
      conv => whnf
      refine hK _ _ _ _ _ _ (go hc 3 (fun K hK => ?_))
      conv => whnf
      exact hK _ _ _ _ _ _ (by rw [i5]; exact next _ _ _ _ _ _ _ _ (Or.inr (Or.inr ⟨_, _, rfl⟩)) hP1 rz2 hr2 (subl rfl) (subs rfl))
    · refine ⟨fun c_ => absurd c_ (nI_ne0 (Nat.pos_of_ne_zero cz) (hcode)), fun c_ => ?_⟩
      conv => whnf
      refine hK _ _ _ _ _ _ (go hc 3 (fun K hK => ?_))
      conv => whnf
      exact hK _ _ _ _ _ _ (by rw [i5]; exact next _ _ _ _ _ _ _ _ (Or.inr (Or.inr ⟨_, _, rfl⟩)) hP1 rz2 hr2 (subl rfl) (subs rfl))
  · refine go hc 0 (fun K hK => ?_)
    conv => whnf
    refine hK _ _ _ _ _ _ (go hc 51 (fun K hK => ?_))
    conv => whnf
    refine Or.inl ⟨rfl, ixv (k := i + 1) (ia (rfl : nI i = nI i) (rfl : (1 : Int32) = nI 1)) (show i + 1 < L by omega) (by omega), ?_⟩
    rw [ixc (k := i + 1) (ia (rfl : nI i = nI i) (rfl : (1 : Int32) = nI 1)) (by omega)]
    conv => whnf
    refine Or.inl ⟨rfl, ixv (k := i + 2) (ia (rfl : nI i = nI i) (rfl : (2 : Int32) = nI 2)) (show i + 2 < L by omega) (by omega), ?_⟩
    rw [ixc (k := i + 2) (ia (rfl : nI i = nI i) (rfl : (2 : Int32) = nI 2)) (by omega)]
    conv => whnf
    refine Or.inl ⟨rfl, ixv (k := i + 3) (ia (rfl : nI i = nI i) (rfl : (3 : Int32) = nI 3)) (show i + 3 < L by omega) (by omega), ?_⟩
    rw [ixc (k := i + 3) (ia (rfl : nI i = nI i) (rfl : (3 : Int32) = nI 3)) (by omega)]
    conv => whnf
    refine Or.inl ⟨rfl, ixv (k := i + 4) (ia (rfl : nI i = nI i) (rfl : (4 : Int32) = nI 4)) (show i + 4 < L by omega) (by omega), ?_⟩
    rw [ixc (k := i + 4) (ia (rfl : nI i = nI i) (rfl : (4 : Int32) = nI 4)) (by omega)]
    conv => whnf
    refine ⟨Nat.le_of_ble_eq_true rfl, ?_⟩
    conv => whnf
    refine callee hc (L_row G hP hr ?_)
    intro W1 o1 h1 hr1 hP1 ho1
    conv => whnf
    refine Or.inl ⟨rfl, ixv (k := i + 1) (ia (rfl : nI i = nI i) (rfl : (1 : Int32) = nI 1)) (show i + 1 < L by omega) (by omega), ?_⟩
    rw [ixc (k := i + 1) (ia (rfl : nI i = nI i) (rfl : (1 : Int32) = nI 1)) (by omega)]
    conv => whnf
    refine Or.inl ⟨rfl, ixv (k := i + 2) (ia (rfl : nI i = nI i) (rfl : (2 : Int32) = nI 2)) (show i + 2 < L by omega) (by omega), ?_⟩
    rw [ixc (k := i + 2) (ia (rfl : nI i = nI i) (rfl : (2 : Int32) = nI 2)) (by omega)]
    conv => whnf
    refine Or.inl ⟨rfl, ixv (k := i + 3) (ia (rfl : nI i = nI i) (rfl : (3 : Int32) = nI 3)) (show i + 3 < L by omega) (by omega), ?_⟩
    rw [ixc (k := i + 3) (ia (rfl : nI i = nI i) (rfl : (3 : Int32) = nI 3)) (by omega)]
    conv => whnf
    refine Or.inl ⟨rfl, ixv (k := i + 4) (ia (rfl : nI i = nI i) (rfl : (4 : Int32) = nI 4)) (show i + 4 < L by omega) (by omega), ?_⟩
    rw [ixc (k := i + 4) (ia (rfl : nI i = nI i) (rfl : (4 : Int32) = nI 4)) (by omega)]
    conv => whnf
    obtain ⟨D, hm, back⟩ := hr1.model
    refine ⟨_, hm.M, Nat.le_of_ble_eq_true rfl, ?_⟩
    conv => whnf
    refine callee hc (e_row hm rz ?_)
    intro m2 h2 hm rz2 c2
    have hr2 := back m2 h2 hm
    conv => whnf
    refine ⟨_, hm.M, Nat.le_of_ble_eq_true rfl, ?_⟩
    conv => whnf
    refine callee hc (e_thrown hm ?_)
    rw [mF_of c2]
    conv => whnf
    refine ⟨fun c_ => ?_, fun c_ => absurd rfl c_⟩
    conv => whnf
    refine hK _ _ _ _ _ _ (go hc 2 (fun K hK => ?_))
    conv => whnf
    by_cases cz : (rRow a (xs (i + 1)) (xs (i + 2)) (xs (i + 3)) (xs (i + 4))).1 = 0
    · rw [cz]
      have ho := ho1 cz
      refine ⟨fun c_ => ?_, fun c_ => absurd rfl c_⟩
      conv => whnf
      refine hK _ _ _ _ _ _ (go hc 7 (fun K hK => ?_))
      conv => whnf
      refine ⟨_, _, hr2.out, vp_in_nI (n := 0) (by omega) (by omega), ?_⟩
      conv => whnf
      refine ⟨fun c_ => ?_, fun c_ => absurd ((lg_cmp_eq _ _).mpr ho) c_⟩
      conv => whnf
      refine hK _ _ _ _ _ _ (go hc 3 (fun K hK => ?_))
      conv => whnf
      exact hK _ _ _ _ _ _ (by rw [i5]; exact next _ _ _ _ _ _ _ _ (Or.inr (Or.inr ⟨_, _, rfl⟩)) hP1 rz2 hr2 (subl rfl) (subs rfl))
    · refine ⟨fun c_ => absurd c_ (nI_ne0 (Nat.pos_of_ne_zero cz) (hcode)), fun c_ => ?_⟩
      conv => whnf
      refine hK _ _ _ _ _ _ (go hc 3 (fun K hK => ?_))
      conv => whnf
      exact hK _ _ _ _ _ _ (by rw [i5]; exact next _ _ _ _ _ _ _ _ (Or.inr (Or.inr ⟨_, _, rfl⟩)) hP1 rz2 hr2 (subl rfl) (subs rfl))
end LAW
