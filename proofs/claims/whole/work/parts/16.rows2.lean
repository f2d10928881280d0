/-! numbers of 64 bits as whole numbers -/
def inL (a : Int) : Prop := -9223372036854775808 < a ∧ a < 9223372036854775808
theorem oI_toInt {a : Int} (h : inL a) : (Int64.ofInt a).toInt = a := Int64.toInt_ofInt_of_le (by have := h.1; omega) (by have := h.2; omega)
theorem oI_le {a b : Int} (ha : inL a) (hb : inL b) : Int64.ofInt a ≤ Int64.ofInt b ↔ a ≤ b := by rw [Int64.le_iff_toInt_le, oI_toInt ha, oI_toInt hb]
theorem oI_lt {a b : Int} (ha : inL a) (hb : inL b) : Int64.ofInt a < Int64.ofInt b ↔ a < b := by rw [Int64.lt_iff_toInt_lt, oI_toInt ha, oI_toInt hb]
theorem oI_eq {a b : Int} (ha : inL a) (hb : inL b) : Int64.ofInt a = Int64.ofInt b ↔ a = b := ⟨fun h => by rw [← oI_toInt ha, ← oI_toInt hb, h], fun h => by rw [h]⟩
theorem inL_0 : inL 0 := ⟨by omega, by omega⟩
theorem oI_0 : (0 : Int64) = Int64.ofInt 0 := rfl
theorem oI_nat (n : Nat) : Int64.ofInt (n : Int) = lN n := Int64.ofInt_eq_ofNat
def dot (u v : V3) : Int := u.1 * v.1 + u.2.1 * v.2.1 + u.2.2 * v.2.2
theorem oI_dot (u v : V3) : Int64.ofInt u.1 * Int64.ofInt v.1 + Int64.ofInt u.2.1 * Int64.ofInt v.2.1 + Int64.ofInt u.2.2 * Int64.ofInt v.2.2 = Int64.ofInt (dot u v) := by
  unfold dot
  rw [Int64.ofInt_add, Int64.ofInt_add, Int64.ofInt_mul, Int64.ofInt_mul, Int64.ofInt_mul]
section ROWS2
variable {sc : Scr} {d : Nat} {w : DW} {X : PH} {j : Nat} {Q : Out → PH → Prop} {l : List V3}
theorem m_product {i : Nat} {v : V3} (u : V3) {a b c : Int64} (hj : j < 21) (hl : HL w j l) (hi : l[i]? = some v) (ha : a = Int64.ofInt u.1) (hb : b = Int64.ofInt u.2.1) (hc0 : c = Int64.ofInt u.2.2) (hQ : Q (.inl (some (.long (Int64.ofInt (dot v u))))) (toD w ++ X)) : wpC sc (d + 2) 28 [.ref (rid j), .int (nI i), .long a, .long b, .long c] (toD w ++ X) Q := by
  subst ha; subst hb; subst hc0
  refine enter rfl rfl (fun call hc => go hc 21 (fun K hK => ?_))
  conv => whnf
  refine ⟨_, x_R _ X j hj, Nat.le_of_ble_eq_true rfl, ?_⟩
  conv => whnf
  refine callee hc (m_at0 hj hl hi ?_)
  conv => whnf
  refine ⟨_, x_R _ X j hj, Nat.le_of_ble_eq_true rfl, ?_⟩
  conv => whnf
  refine callee hc (m_at1 hj hl hi ?_)
  conv => whnf
  refine ⟨_, x_R _ X j hj, Nat.le_of_ble_eq_true rfl, ?_⟩
  conv => whnf
  refine callee hc (m_at2 hj hl hi ?_)
  conv => whnf
  rw [oI_dot]
  exact hQ
def neg3 (v : V3) : V3 := (-v.1, -v.2.1, -v.2.2)
theorem m_negate {i : Nat} {v : V3} (hj : j < 21) (hl : HL w j l) (hi : l[i]? = some v) (hQ : ∀ w', Fr w w' [j] → HL w' j (l.set i (neg3 v)) → Q (.inl none) (toD w' ++ X)) : wpC sc (d + 2) 27 [.ref (rid j), .int (nI i)] (toD w ++ X) Q := by
  refine enter rfl rfl (fun call hc => go hc 27 (fun K hK => ?_))
  conv => whnf
  refine ⟨_, x_R _ X j hj, Nat.le_of_ble_eq_true rfl, ?_⟩
  conv => whnf
  refine callee hc (m_at0 hj hl hi ?_)
  conv => whnf
  refine ⟨_, x_R _ X j hj, Nat.le_of_ble_eq_true rfl, ?_⟩
  conv => whnf
  refine callee hc (m_at1 hj hl hi ?_)
  conv => whnf
  refine ⟨_, x_R _ X j hj, Nat.le_of_ble_eq_true rfl, ?_⟩
  conv => whnf
  refine callee hc (m_at2 hj hl hi ?_)
  conv => whnf
  refine ⟨_, x_R _ X j hj, Nat.le_of_ble_eq_true rfl, ?_⟩
  conv => whnf
  refine callee hc (m_write (neg3 v) hj hl (List.getElem?_eq_some_iff.mp hi).1 (Int64.ofInt_neg _).symm (Int64.ofInt_neg _).symm (Int64.ofInt_neg _).symm ?_)
  intro w' hf hl'
  conv => whnf
  exact hQ w' hf hl'
theorem m_swap {i k : Nat} {v u : V3} (hj : j < 21) (hl : HL w j l) (hi : l[i]? = some v) (hk : l[k]? = some u) (hQ : ∀ w', Fr w w' [j] → HL w' j ((l.set i u).set k v) → Q (.inl none) (toD w' ++ X)) : wpC sc (d + 2) 26 [.ref (rid j), .int (nI i), .int (nI k)] (toD w ++ X) Q := by
  have hil := (List.getElem?_eq_some_iff.mp hi).1
  have hkl := (List.getElem?_eq_some_iff.mp hk).1
  refine enter rfl rfl (fun call hc => go hc 40 (fun K hK => ?_))
  conv => whnf
  refine ⟨_, x_R _ X j hj, Nat.le_of_ble_eq_true rfl, ?_⟩
  conv => whnf
  refine callee hc (m_at0 hj hl hi ?_)
  conv => whnf
  refine ⟨_, x_R _ X j hj, Nat.le_of_ble_eq_true rfl, ?_⟩
  conv => whnf
  refine callee hc (m_at1 hj hl hi ?_)
  conv => whnf
  refine ⟨_, x_R _ X j hj, Nat.le_of_ble_eq_true rfl, ?_⟩
  conv => whnf
  refine callee hc (m_at2 hj hl hi ?_)
  conv => whnf
  refine ⟨_, x_R _ X j hj, Nat.le_of_ble_eq_true rfl, ?_⟩
  conv => whnf
  refine callee hc (m_at0 hj hl hk ?_)
  conv => whnf
  refine ⟨_, x_R _ X j hj, Nat.le_of_ble_eq_true rfl, ?_⟩
  conv => whnf
  refine callee hc (m_at1 hj hl hk ?_)
  conv => whnf
  refine ⟨_, x_R _ X j hj, Nat.le_of_ble_eq_true rfl, ?_⟩
  conv => whnf
  refine callee hc (m_at2 hj hl hk ?_)
  conv => whnf
  refine ⟨_, x_R _ X j hj, Nat.le_of_ble_eq_true rfl, ?_⟩
  conv => whnf
  refine callee hc (m_write u hj hl hil rfl rfl rfl ?_)
  intro w1 hf1 hl1
  conv => whnf
  refine ⟨_, x_R _ X j hj, Nat.le_of_ble_eq_true rfl, ?_⟩
  conv => whnf
  refine callee hc (m_write v hj hl1 (by rw [List.length_set] ?_)
  intro w2 hf2 hl2
  conv => whnf
  exact hQ w2 (hf1.tr hf2) hl2
/-- the greatest common divisor, by the class's loop: two rounds halve -/
theorem gcd_loop {call : Callee} (hc : call = wpC sc d) {o1 o2 : Int64} {h : PH} : ∀ (k : Nat) (x y s : Nat), x < 9223372036854775808 → y < 2 ^ k → k ≤ 63 → s + 2 * k < 1000 → (∀ Z : Nat, Z = Nat.gcd x y → Q (.inl (some (.long (lN Z)))) h) → Runs d call sc m_X3_commonDivisor Q 31 [(0, .long o1), (2, .long o2), (4, .long (lN x)), (6, .long (lN y)), (8, .int (nI s))] [] h 0 0 := by
  intro k
  induction k with
  | zero =>
    intro x y s hx hy _ hs hQ
    obtain rfl : y = 0 := by simpa using hy
    refine go hc 9 (fun K hK => ?_)
    conv => whnf
    refine ⟨fun c => absurd c (nI_ge (show s < 1000 by omega) (by omega)), fun c => ?_⟩
    conv => whnf
    refine ⟨fun _ => ?_, fun c => absurd ((lg_cmp_eq _ _).mpr rfl) c⟩
    conv => whnf
    exact hQ x (by simp)
  | succ k ih =>
    intro x y s hx hy hk hs hQ
    have hyb : y < 9223372036854775808 := Nat.lt_of_lt_of_le hy (Nat.le_trans (Nat.pow_le_pow_right (by omega) hk) (by decide))
    refine go hc 9 (fun K hK => ?_)
    conv => whnf
    refine ⟨fun c => absurd c (nI_ge (show s < 1000 by omega) (by omega)), fun c => ?_⟩
    conv => whnf
    refine ⟨fun c => ?_, fun c => ?_⟩
    · have h0 : y = 0 := (pk_lEQ hyb (show 0 < 2 ^ 63 by decide)).mp ((lg_cmp_eq _ _).mp c)
      subst h0
      conv => whnf
      exact hQ x (by simp)
    · have h0 : 0 < y := Nat.pos_of_ne_zero fun q => c ((lg_cmp_eq _ _).mpr (by rw [q]; rfl))
      conv => whnf
      refine hK _ _ _ _ _ _ ?_
      refine go hc 10 (fun K hK => ?_)
      conv => whnf
      refine ⟨fun q => by have := (pk_lEQ hyb (show 0 < 2 ^ 63 by decide)).mp q; omega, ?_⟩
      rw [pk_lRem hx h0 hyb]
      conv => whnf
      rw [nI_1]
      refine hK _ _ _ _ _ _ ?_
      have hr : x % y < y := Nat.mod_lt _ h0
      refine Runs.more (by rw [hc]; exact wpC_mono sc d) rfl (lv := [(0, .long o1), (2, .long o2), (4, .long (lN y)), (6, .long (lN (x % y))), (8, .int (nI (s + 1)))]) ?_ ⟨by decide +revert, by decide +revert, by simp, by simp [mAl, mHh, m_X3_commonDivisor]⟩
      sorry
end ROWS2
