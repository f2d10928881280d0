/-! order of edges -/
/-- edge v stands before edge u -/
def bf (c : Nat) (v u : V3) : Bool :=
  if rayV c v ≠ rayV c u then rayV c v
  else if v.2.1 * wtV c u ≠ u.2.1 * wtV c v then decide (v.2.1 * wtV c u < u.2.1 * wtV c v)
  else if v.2.2 * wtV c u ≠ u.2.2 * wtV c v then decide (v.2.2 * wtV c u < u.2.2 * wtV c v)
  else decide (v.1 < u.1)
theorem bd_wt {c : Nat} {v : V3} (h : bdV BD v) : bdI BD (wtV c v) := by
  unfold wtV
  split
  · exact h.1
  · exact ⟨by decide, by decide⟩
theorem bd_mul {a b : Int} (ha : bdI BD a) (hb : bdI BD b) : inL (a * b) := by
  have h := mulB ha hb
  rw [show BD * BD = 225000000000000 by decide] at h
  constructor <;> omega
theorem bI01_ne {a b : Bool} (h : ¬ a = b) : ¬ bI01 a = bI01 b := by
  cases a <;> cases b <;> first | exact absurd rfl h | decide
section ORD
variable {sc : Scr} {d : Nat} {W : AW} {X h : PH} {c : Nat} {Q : Out → PH → Prop}
theorem r_compare {a b : Int} (ha : inL a) (hb : inL b) (hQ : Q (.inl (some (.int (if a < b then -1 else if a = b then 0 else 1)))) h) : wpC sc (d + 1) 143 [.long (Int64.ofInt a), .long (Int64.ofInt b)] h Q := by
  refine enter rfl rfl (fun call hc => go hc 4 (fun K hK => ?_))
  conv => whnf
  by_cases h1 : a < b
  · rw [if_pos h1] at hQ
    refine ⟨fun c_ => absurd c_ (fun q => by have := (kGe ha hb).mp q; omega), fun c_ => ?_⟩
    conv => whnf
    refine hK _ _ _ _ _ _ (go hc 3 (fun K hK => ?_))
    conv => whnf
    exact hQ
  · rw [if_neg h1] at hQ
    refine ⟨fun c_ => ?_, fun c_ => absurd ((kGe ha hb).mpr (by omega)) c_⟩
    conv => whnf
    refine hK _ _ _ _ _ _ (go hc 4 (fun K hK => ?_))
    conv => whnf
    by_cases h2 : a = b
    · rw [if_pos h2] at hQ
      refine ⟨fun c_ => ?_, fun c_ => absurd ((kEq ha hb).mpr h2) c_⟩
      conv => whnf
      refine hK _ _ _ _ _ _ (go hc 3 (fun K hK => ?_))
      conv => whnf
      exact hQ
    · rw [if_neg h2] at hQ
      refine ⟨fun c_ => absurd c_ (fun q => h2 ((kEq ha hb).mp q)), fun c_ => ?_⟩
      conv => whnf
      refine hK _ _ _ _ _ _ (go hc 2 (fun K hK => ?_))
      conv => whnf
      exact hQ
theorem r_isBefore (hr : Rep W X h) {i k : Nat} (hc0 : c < 10) (hi : i < (W.1 (2 * c + 1)).length) (hk : k < (W.1 (2 * c + 1)).length) (hb : ∀ v ∈ W.1 (2 * c + 1), bdV BD v) (hQ : Q (.inl (some (.int (bI01 (bf c (gt (W.1 (2 * c + 1)) i) (gt (W.1 (2 * c + 1)) k)))))) h) : wpC sc (d + 3) 12 [.ref (cid c), .int (nI i), .int (nI k)] h Q := by
  have b1 := hb _ (gt_mem hi)
  have b2 := hb _ (gt_mem hk)
  have v1 := b1.inV (by decide)
  have v2 := b2.inV (by decide)
  generalize hv : gt (W.1 (2 * c + 1)) i = v at *
  generalize hu : gt (W.1 (2 * c + 1)) k = u at *
  have m1 := bd_mul b1.2.1 (bd_wt (c := c) b2)
  have m2 := bd_mul b2.2.1 (bd_wt (c := c) b1)
  have m3 := bd_mul b1.2.2 (bd_wt (c := c) b2)
  have m4 := bd_mul b2.2.2 (bd_wt (c := c) b1)
  have w1 : inV (gt (W.1 (2 * c + 1)) i) := by rw [hv]; exact v1
  have w2 : inV (gt (W.1 (2 * c + 1)) k) := by rw [hu]; exact v2
  unfold bf at hQ
  refine enter rfl rfl (fun call hc => go hc 7 (fun K hK => ?_))
  conv => whnf
  refine ⟨_, hr.C _ (by omega), Nat.le_of_ble_eq_true rfl, ?_⟩
  conv => whnf
  refine callee hc (r_isRay hr hc0 hi w1 ?_)
  conv => whnf
  refine ⟨_, hr.C _ (by omega), Nat.le_of_ble_eq_true rfl, ?_⟩
  conv => whnf
  refine callee hc (r_isRay hr hc0 hk w2 ?_)
  conv => whnf
  rw [hv, hu]
  by_cases h1 : rayV c v = rayV c u
  · rw [if_neg (by simpa using h1)] at hQ
    refine ⟨fun c_ => ?_, fun c_ => absurd (by rw [h1]) c_⟩
    conv => whnf
    refine hK _ _ _ _ _ _ (go hc 22 (fun K hK => ?_))
    conv => whnf
    refine ⟨_, _, hr.C _ (by omega), rfl, ?_⟩
    conv => whnf
    refine ⟨_, hr.R _ (by omega), Nat.le_of_ble_eq_true rfl, ?_⟩
    conv => whnf
    refine callee hc (r_at1 hr (by omega) (by omega) ?_)
    conv => whnf
    refine ⟨_, hr.C _ (by omega), Nat.le_of_ble_eq_true rfl, ?_⟩
    conv => whnf
    refine callee hc (r_weight hr hc0 hk w2 ?_)
    rw [hu, hv]
    conv => whnf
    rw [← Int64.ofInt_mul]
    conv => whnf
    refine ⟨_, _, hr.C _ (by omega), rfl, ?_⟩
    conv => whnf
    refine ⟨_, hr.R _ (by omega), Nat.le_of_ble_eq_true rfl, ?_⟩
    conv => whnf
    refine callee hc (r_at1 hr (by omega) (by omega) ?_)
    conv => whnf
    refine ⟨_, hr.C _ (by omega), Nat.le_of_ble_eq_true rfl, ?_⟩
    conv => whnf
    refine callee hc (r_weight hr hc0 hi w1 ?_)
    rw [hu, hv]
    conv => whnf
    rw [← Int64.ofInt_mul]
    conv => whnf
    refine ⟨Nat.le_of_ble_eq_true rfl, ?_⟩
    conv => whnf
    refine callee hc (r_compare m1 m2 ?_)
    conv => whnf
    by_cases h2 : v.2.1 * wtV c u = u.2.1 * wtV c v
    · rw [if_neg (by simpa using h2)] at hQ
      rw [if_neg (by omega), if_pos h2]
      refine ⟨fun c_ => ?_, fun c_ => absurd (rfl) c_⟩
      conv => whnf
      refine hK _ _ _ _ _ _ (go hc 22 (fun K hK => ?_))
      conv => whnf
      refine ⟨_, _, hr.C _ (by omega), rfl, ?_⟩
      conv => whnf
      refine ⟨_, hr.R _ (by omega), Nat.le_of_ble_eq_true rfl, ?_⟩
      conv => whnf
      refine callee hc (r_at2 hr (by omega) (by omega) ?_)
      conv => whnf
      refine ⟨_, hr.C _ (by omega), Nat.le_of_ble_eq_true rfl, ?_⟩
      conv => whnf
      refine callee hc (r_weight hr hc0 hk w2 ?_)
      rw [hu, hv]
      conv => whnf
      rw [← Int64.ofInt_mul]
      conv => whnf
      refine ⟨_, _, hr.C _ (by omega), rfl, ?_⟩
      conv => whnf
      refine ⟨_, hr.R _ (by omega), Nat.le_of_ble_eq_true rfl, ?_⟩
      conv => whnf
      refine callee hc (r_at2 hr (by omega) (by omega) ?_)
      conv => whnf
      refine ⟨_, hr.C _ (by omega), Nat.le_of_ble_eq_true rfl, ?_⟩
      conv => whnf
      refine callee hc (r_weight hr hc0 hi w1 ?_)
      rw [hu, hv]
      conv => whnf
      rw [← Int64.ofInt_mul]
      conv => whnf
      refine ⟨Nat.le_of_ble_eq_true rfl, ?_⟩
      conv => whnf
      refine callee hc (r_compare m3 m4 ?_)
      conv => whnf
      by_cases h3 : v.2.2 * wtV c u = u.2.2 * wtV c v
      · rw [if_neg (by simpa using h3)] at hQ
        rw [if_neg (by omega), if_pos h3]
        refine ⟨fun c_ => ?_, fun c_ => absurd (rfl) c_⟩
        conv => whnf
        refine hK _ _ _ _ _ _ (go hc 12 (fun K hK => ?_))
        conv => whnf
        refine ⟨_, _, hr.C _ (by omega), rfl, ?_⟩
        conv => whnf
        refine ⟨_, hr.R _ (by omega), Nat.le_of_ble_eq_true rfl, ?_⟩
        conv => whnf
        refine callee hc (r_at0 hr (by omega) (by omega) ?_)
        conv => whnf
        refine ⟨_, _, hr.C _ (by omega), rfl, ?_⟩
        conv => whnf
        refine ⟨_, hr.R _ (by omega), Nat.le_of_ble_eq_true rfl, ?_⟩
        conv => whnf
        refine callee hc (r_at0 hr (by omega) (by omega) ?_)
        conv => whnf
        rw [hu, hv]
        by_cases h4 : v.1 < u.1
        · rw [decide_eq_true h4] at hQ
          refine ⟨fun c_ => absurd c_ (fun q => by have := (kGe v1.1 v2.1).mp q; omega), fun c_ => ?_⟩
          conv => whnf
          refine hK _ _ _ _ _ _ (go hc 3 (fun K hK => ?_))
          conv => whnf
          exact ⟨Or.inr rfl, hQ⟩
        · rw [decide_eq_false h4] at hQ
          refine ⟨fun c_ => ?_, fun c_ => absurd ((kGe v1.1 v2.1).mpr (by omega)) c_⟩
          conv => whnf
          refine hK _ _ _ _ _ _ (go hc 2 (fun K hK => ?_))
          conv => whnf
          exact ⟨Or.inl rfl, hQ⟩
      · rw [if_pos h3] at hQ
        by_cases h4 : v.2.2 * wtV c u < u.2.2 * wtV c v
        · rw [decide_eq_true h4] at hQ
          rw [if_pos h4]
          refine ⟨fun c_ => absurd c_ (by decide), fun c_ => ?_⟩
          conv => whnf
          refine hK _ _ _ _ _ _ (go hc 2 (fun K hK => ?_))
          conv => whnf
          refine ⟨fun c_ => absurd c_ (by decide), fun c_ => ?_⟩
          conv => whnf
          refine hK _ _ _ _ _ _ (go hc 3 (fun K hK => ?_))
          conv => whnf
          exact ⟨Or.inr rfl, hQ⟩
        · rw [decide_eq_false h4] at hQ
          rw [if_neg h4, if_neg h3]
          refine ⟨fun c_ => absurd c_ (by decide), fun c_ => ?_⟩
          conv => whnf
          refine hK _ _ _ _ _ _ (go hc 2 (fun K hK => ?_))
          conv => whnf
          refine ⟨fun c_ => ?_, fun c_ => absurd (by decide) c_⟩
          conv => whnf
          refine hK _ _ _ _ _ _ (go hc 2 (fun K hK => ?_))
          conv => whnf
          exact ⟨Or.inl rfl, hQ⟩
    · rw [if_pos h2] at hQ
      by_cases h4 : v.2.1 * wtV c u < u.2.1 * wtV c v
      · rw [decide_eq_true h4] at hQ
        rw [if_pos h4]
        refine ⟨fun c_ => absurd c_ (by decide), fun c_ => ?_⟩
        conv => whnf
        refine hK _ _ _ _ _ _ (go hc 2 (fun K hK => ?_))
        conv => whnf
        refine ⟨fun c_ => absurd c_ (by decide), fun c_ => ?_⟩
        conv => whnf
        refine hK _ _ _ _ _ _ (go hc 3 (fun K hK => ?_))
        conv => whnf
        exact ⟨Or.inr rfl, hQ⟩
      · rw [decide_eq_false h4] at hQ
        rw [if_neg h4, if_neg h2]
        refine ⟨fun c_ => absurd c_ (by decide), fun c_ => ?_⟩
        conv => whnf
        refine hK _ _ _ _ _ _ (go hc 2 (fun K hK => ?_))
        conv => whnf
        refine ⟨fun c_ => ?_, fun c_ => absurd (by decide) c_⟩
        conv => whnf
        refine hK _ _ _ _ _ _ (go hc 2 (fun K hK => ?_))
        conv => whnf
        exact ⟨Or.inl rfl, hQ⟩
  · rw [if_pos h1] at hQ
    refine ⟨fun c_ => absurd c_ (bI01_ne h1), fun c_ => ?_⟩
    conv => whnf
    refine hK _ _ _ _ _ _ (go hc 4 (fun K hK => ?_))
    conv => whnf
    refine ⟨_, hr.C _ (by omega), Nat.le_of_ble_eq_true rfl, ?_⟩
    conv => whnf
    refine callee hc (r_isRay hr hc0 hi w1 ?_)
    conv => whnf
    rw [hv]
    refine ⟨?_, hQ⟩
    cases rayV c v
    · exact Or.inl rfl
    · exact Or.inr rfl
end ORD
