/-! inequalities, the point, lines -/
def aiV (M : Nat → List V3) (k : V3) : V3 := if M 0 = [] then prm k else cleV (gt (M 0) 0) (prm k)
def aiF (M : Nat → List V3) (k : V3) : Nat → List V3 := if (aiV M k).2.1 = 0 ∧ (aiV M k).2.2 = 0 then M else mkM M 1 (aiV M k)
def mptF (M : Nat → List V3) (g : V3) : Nat → List V3 := mkM (mkM (mkM M 4 (prm g)) 0 (prm (-g.2.1, g.1, 0))) 0 (prm (-g.2.2, 0, g.1))
def fpt : List V3 → V3
  | [] => (0, 0, 0)
  | g :: t => if g.1 = 0 then fpt t else g
theorem fpt_cons (g : V3) (t : List V3) : fpt (g :: t) = if g.1 = 0 then fpt t else g := rfl
/-- what a line would be along this row -/
def perpV (v : V3) : V3 := (0, -v.2.2, v.2.1)
def mlF (M : Nat → List V3) (dm : Nat) : Nat → List V3 :=
  if dm = 2 ∧ M 1 = [] then mkM (mkM M 2 (prm (0, 1, 0))) 2 (prm (0, 0, 1))
  else if dm = 1 ∧ M 1 ≠ [] then M
  else if (M 1).all (fun q => decide (dot q (perpV (gt (M (if dm = 1 then 0 else 1)) 0)) = 0)) = true then mkM M 2 (rctV (prm (perpV (gt (M (if dm = 1 then 0 else 1)) 0)))) else M
theorem Mk.row {m : MM} {M : Nat → List V3} (h : Mk m M) {k i : Nat} (hk : k < 5) (hi : i < (M k).length) : vAt m 11 (1800 * k + 3 * i) = gt (M k) i := (h k hk).2.1 i hi
theorem Mk.cnt {m : MM} {M : Nat → List V3} (h : Mk m M) {k : Nat} (hk : k < 5) : mI m 10 k = nI (M k).length := by unfold mI; rw [(h k hk).1]; rfl
theorem Mk.le {m : MM} {M : Nat → List V3} (h : Mk m M) {k : Nat} (hk : k < 5) : (M k).length ≤ 600 := (h k hk).2.2
theorem mkM_ne (M : Nat → List V3) {k j : Nat} (c : V3) (h : j ≠ k) : mkM M k c j = M j := va_up_ne _ _ h
theorem inV_rct {v : V3} (h : inV v) : inV (rctV v) := by
  unfold rctV
  split
  · exact inV_neg h
  · exact h
section ELINES
variable {sc : Scr} {d : Nat} {m : MM} {D Z h : PH} {Q : Out → PH → Prop} {C G : List V3} {M : Nat → List V3}
theorem e_addIneq (hm : MR m D Z h) (h0 : KG m C G) (hM : Mk m M) (hMo : Mok M) {i : Nat} {X : Int32} (hX : X = nI i) (hi : i < C.length) (hki : inV (gt C i)) (hcl : M 0 ≠ [] → inV (lin (cmp3 (gt (M 0) 0) (pvt (gt (M 0) 0))) (-(cmp3 (prm (gt C i)) (pvt (gt (M 0) 0)))) (prm (gt C i)) (gt (M 0) 0))) (hl1 : (M 1).length < 600)
    (hQ : ∀ m' h', MR m' D Z h' → Mk m' (aiF M (gt C i)) → Fx [7, 10, 11] m m' → Q (.inl none) h') : wpC sc (d + 5) 112 [.ref 60, .int X] h Q := by
  subst hX
  have hcl' := h0.2.2.1
  have l0 := hM.le (show 0 < 5 by omega)
  have hpi := prm_inV hki
  have n28 : ∀ {call : Callee}, call = wpC sc (d + 4) → ∀ m' h', MR m' D Z h' → Mk m' M → Fx [7, 10, 11] m m' → vAt m' 7 0 = aiV M (gt C i) → inV (aiV M (gt C i)) → Runs (d + 4) call sc m_X4_addInequality (qth (mTh m_X4_addInequality) Q) 28 [(0, .ref 60), (1, .int (nI i))] [] h' 0 0 := by
    intro call hc m' h' hm hM' hf hv hai
    unfold aiF at hQ
    generalize aiV M (gt C i) = c at *
    have c1 : m' 7 1 = c.2.1 := congrArg (fun v : V3 => v.2.1) hv
    have c2 : m' 7 2 = c.2.2 := congrArg (fun v : V3 => v.2.2) hv
    have n50 : ¬ (c.2.1 = 0 ∧ c.2.2 = 0) → Runs (d + 4) call sc m_X4_addInequality (qth (mTh m_X4_addInequality) Q) 50 [(0, .ref 60), (1, .int (nI i))] [] h' 0 0 := fun hne => by
      rw [if_neg hne] at hQ
      refine go hc 3 (fun K hK => ?_)
      conv => whnf
      refine ⟨_, hm.M, Nat.le_of_ble_eq_true rfl, ?_⟩
      conv => whnf
      refine callee hc (e_make hm (k := 1) rfl (by omega) hM' hl1 (hMo 1 (by omega)) (by rw [hv]; exact hai) ?_)
      intro m3 h3 hm M3 v3 f3
      conv => whnf
      rw [hv] at M3
      refine hK _ _ _ _ _ _ ?_
      refine go hc 1 (fun K hK => ?_)
      conv => whnf
      exact hQ m3 h3 hm M3 (hf.trans f3)
    refine go hc 7 (fun K hK => ?_)
    conv => whnf
    refine ⟨_, _, hm.M, rfl, ?_⟩
    conv => whnf
    refine ⟨_, _, hm.L7, ixv (k := 1) ((rfl : (1 : Int32) = nI 1)) (by omega) (Nat.le_of_ble_eq_true rfl), ?_⟩
    rw [ixc (k := 1) ((rfl : (1 : Int32) = nI 1)) (by omega)]
    conv => whnf
    unfold mL
    rw [c1]
    by_cases z1 : c.2.1 = 0
    · refine ⟨fun c_ => ?_, fun c_ => absurd ((kEq0 hai.2.1).mpr z1) c_⟩
      conv => whnf
      refine hK _ _ _ _ _ _ (go hc 7 (fun K hK => ?_))
      conv => whnf
      refine ⟨_, _, hm.M, rfl, ?_⟩
      conv => whnf
      refine ⟨_, _, hm.L7, ixv (k := 2) ((rfl : (2 : Int32) = nI 2)) (by omega) (Nat.le_of_ble_eq_true rfl), ?_⟩
      rw [ixc (k := 2) ((rfl : (2 : Int32) = nI 2)) (by omega)]
      conv => whnf
      unfold mL
      rw [c2]
      by_cases z2 : c.2.2 = 0
      · rw [if_pos ⟨z1, z2⟩] at hQ
        refine ⟨fun c_ => ?_, fun c_ => absurd ((kEq0 hai.2.2).mpr z2) c_⟩
        conv => whnf
        refine hK _ _ _ _ _ _ ?_
        refine go hc 1 (fun K hK => ?_)
        conv => whnf
        exact hQ m' h' hm hM' hf
      · refine ⟨fun c_ => absurd c_ (fun q => z2 ((kEq0 hai.2.2).mp q)), fun c_ => ?_⟩
        conv => whnf
        refine hK _ _ _ _ _ _ (n50 fun q => z2 q.2)
    · refine ⟨fun c_ => absurd c_ (fun q => z1 ((kEq0 hai.2.1).mp q)), fun c_ => ?_⟩
      conv => whnf
      refine hK _ _ _ _ _ _ (n50 fun q => z1 q.1)
  refine enter rfl rfl (fun call hc => go hc 10 (fun K hK => ?_))
  conv => whnf
  refine ⟨_, _, hm.M, rfl, ?_⟩
  conv => whnf
  refine ⟨_, hm.M, Nat.le_of_ble_eq_true rfl, ?_⟩
  conv => whnf
  refine callee hc (e_load hm (a := 5) (by decide) rfl (show 3 * i + 2 < 1800 by omega) (h0.k hi) hki ?_)
  intro m1 h1 hm v1 f1
  have hM1 := hM.fx f1 (by decide) (by decide)
  have f1' : Fx [7, 10, 11] m m1 := f1.mono (by decide)
  conv => whnf
  refine ⟨_, _, hm.M, rfl, ?_⟩
  conv => whnf
  refine Or.inr ⟨_, _, hm.I10, ixv (k := 0) ((rfl : (0 : Int32) = nI 0)) (by omega) (Nat.le_of_ble_eq_true rfl), ?_⟩
  rw [ixc (k := 0) ((rfl : (0 : Int32) = nI 0)) (by omega)]
  conv => whnf
  rw [hM1.cnt (by omega)]
  by_cases c : M 0 = []
  · have e : aiV M (gt C i) = prm (gt C i) := if_pos c
    refine ⟨fun c_ => ?_, fun c_ => absurd (by rw [c]; decide) c_⟩
    conv => whnf
    refine hK _ _ _ _ _ _ (n28 hc m1 h1 hm hM1 f1' (by rw [v1, e]) (by rw [e]; exact hpi))
  · have e : aiV M (gt C i) = cleV (gt (M 0) 0) (prm (gt C i)) := if_neg c
    have hpos : 0 < (M 0).length := List.length_pos_iff.mpr c
    have hrow : vAt m1 11 (1800 * 0 + 3 * 0) = gt (M 0) 0 := hM1.row (by omega) hpos
    refine ⟨fun c_ => absurd c_ (nI_nle hpos (by omega)), fun c_ => ?_⟩
    conv => whnf
    refine hK _ _ _ _ _ _ (go hc 6 (fun K hK => ?_))
    conv => whnf
    refine ⟨_, hm.M, Nat.le_of_ble_eq_true rfl, ?_⟩
    conv => whnf
    refine callee hc (e_place (k := 0) (i := 0) rfl rfl ?_)
    conv => whnf
    refine ⟨_, hm.M, Nat.le_of_ble_eq_true rfl, ?_⟩
    conv => whnf
    refine callee hc (e_clear hm (p := 1800 * 0 + 3 * 0) rfl (by omega) hrow (hMo 0 (by omega) _ (gt_mem hpos)) v1 (hcl c) ?_)
    intro m2 h2 hm v2 f2
    conv => whnf
    refine hK _ _ _ _ _ _ (n28 hc m2 h2 hm (hM1.fx f2 (by decide) (by decide)) (f1'.trans (f2.mono (by decide))) (by rw [v2, e]) (by rw [e]; exact prm_inV (hcl c)))
theorem e_makePoint (hm : MR m D Z h) (hG : RW m 4 0 G) (hgl : G.length ≤ 600) (hgi : ∀ g ∈ G, inV g) (hpt : ∃ g ∈ G, g.1 ≠ 0) (hM : Mk m M) (hMo : Mok M) (l4 : (M 4).length < 600) (l0 : (M 0).length + 2 ≤ 600)
    (hQ : ∀ m' h', MR m' D Z h' → Mk m' (mptF M (fpt G)) → Fx [7, 10, 11] m m' → Q (.inl none) h') : wpC sc (d + 4) 110 [.ref 60] h Q := by
  have n21 : ∀ {call : Callee}, call = wpC sc (d + 3) → ∀ i, i < G.length → fpt G = gt G i → Runs (d + 3) call sc m_X4_makePoint (qth (mTh m_X4_makePoint) Q) 21 [(0, .ref 60), (1, .int (nI i))] [] h 0 0 := by
    intro call hc i hi he
    have hv := hG.v0 hi
    rw [← he] at hv
    have hgv : inV (fpt G) := by rw [he]; exact hgi _ (gt_mem hi)
    unfold mptF at hQ
    generalize fpt G = g at *
    have e0 : m 4 (3 * i) = g.1 := congrArg Prod.fst hv
    have e1 : m 4 (3 * i + 1) = g.2.1 := congrArg (fun v : V3 => v.2.1) hv
    have e2 : m 4 (3 * i + 2) = g.2.2 := congrArg (fun v : V3 => v.2.2) hv
    have b1 : inV ((-g.2.1, g.1, 0) : V3) := ⟨hgv.2.1.neg, hgv.1, inL_0⟩
    have b2 : inV ((-g.2.2, 0, g.1) : V3) := ⟨hgv.2.2.neg, inL_0, hgv.1⟩
    have q1 : (mkM M 4 (prm g) 0).length = (M 0).length := by rw [mkM_ne _ _ (by decide)]
    have q2 := mkM_len (mkM M 4 (prm g)) 0 0 (prm (-g.2.1, g.1, 0))
    refine go hc 52 (fun K hK => ?_)
    conv => whnf
    refine ⟨_, _, hm.M, rfl, ?_⟩
    conv => whnf
    refine ⟨_, _, hm.L4, ixv (k := (3) * (i)) (im ((rfl : (3 : Int32) = nI 3)) ((rfl : nI (i) = nI (i)))) (by omega) (Nat.le_of_ble_eq_true rfl), ?_⟩
    rw [ixc (k := (3) * (i)) (im ((rfl : (3 : Int32) = nI 3)) ((rfl : nI (i) = nI (i)))) (by omega)]
    conv => whnf
    refine ⟨_, _, hm.M, rfl, ?_⟩
    conv => whnf
    refine ⟨_, _, hm.L4, ixv (k := ((3) * (i)) + (1)) (ia (im ((rfl : (3 : Int32) = nI 3)) ((rfl : nI (i) = nI (i)))) ((rfl : (1 : Int32) = nI 1))) (by omega) (Nat.le_of_ble_eq_true rfl), ?_⟩
    rw [ixc (k := ((3) * (i)) + (1)) (ia (im ((rfl : (3 : Int32) = nI 3)) ((rfl : nI (i) = nI (i)))) ((rfl : (1 : Int32) = nI 1))) (by omega)]
    conv => whnf
    refine ⟨_, _, hm.M, rfl, ?_⟩
    conv => whnf
    refine ⟨_, _, hm.L4, ixv (k := ((3) * (i)) + (2)) (ia (im ((rfl : (3 : Int32) = nI 3)) ((rfl : nI (i) = nI (i)))) ((rfl : (2 : Int32) = nI 2))) (by omega) (Nat.le_of_ble_eq_true rfl), ?_⟩
    rw [ixc (k := ((3) * (i)) + (2)) (ia (im ((rfl : (3 : Int32) = nI 3)) ((rfl : nI (i) = nI (i)))) ((rfl : (2 : Int32) = nI 2))) (by omega)]
    conv => whnf
    refine ⟨_, hm.M, Nat.le_of_ble_eq_true rfl, ?_⟩
    conv => whnf
    refine callee hc (e_put hm g (by unfold mL; rw [e0]) (by unfold mL; rw [e1]) (by unfold mL; rw [e2]) hgv ?_)
    intro m1 h1 hm v1 f1
    conv => whnf
    refine ⟨_, hm.M, Nat.le_of_ble_eq_true rfl, ?_⟩
    conv => whnf
    refine callee hc (e_make hm (k := 4) rfl (by omega) (hM.fx f1 (by decide) (by decide)) l4 (hMo 4 (by omega)) (by rw [v1]; exact prm_inV hgv) ?_)
    intro m2 h2 hm M2 v2 f2
    rw [v1] at M2
    conv => whnf
    refine ⟨_, hm.M, Nat.le_of_ble_eq_true rfl, ?_⟩
    conv => whnf
    refine callee hc (e_put hm (-g.2.1, g.1, 0) (by unfold mL; rw [e1]; exact (Int64.ofInt_neg _).symm) (by unfold mL; rw [e0]) rfl b1 ?_)
    intro m3 h3 hm v3 f3
    conv => whnf
    refine ⟨_, hm.M, Nat.le_of_ble_eq_true rfl, ?_⟩
    conv => whnf
    refine callee hc (e_make hm (k := 0) rfl (by omega) (Mk.fx M2 f3 (by decide) (by decide)) (show (mkM M 4 (prm g) 0).length < 600 by omega) ((hMo.mk (k := 4) (prm_inV hgv)) 0 (by omega)) (by rw [v3]; exact prm_inV b1) ?_)
    intro m4 h4 hm M4 v4 f4
    rw [v3] at M4
    conv => whnf
    refine ⟨_, hm.M, Nat.le_of_ble_eq_true rfl, ?_⟩
    conv => whnf
    refine callee hc (e_put hm (-g.2.2, 0, g.1) (by unfold mL; rw [e2]; exact (Int64.ofInt_neg _).symm) rfl (by unfold mL; rw [e0]) b2 ?_)
    intro m5 h5 hm v5 f5
    conv => whnf
    refine ⟨_, hm.M, Nat.le_of_ble_eq_true rfl, ?_⟩
    conv => whnf
    refine callee hc (e_make hm (k := 0) rfl (by omega) (Mk.fx M4 f5 (by decide) (by decide)) (show (mkM (mkM M 4 (prm g)) 0 (prm (-g.2.1, g.1, 0)) 0).length < 600 by omega) (((hMo.mk (k := 4) (prm_inV hgv)).mk (k := 0) (prm_inV b1)) 0 (by omega)) (by rw [v5]; exact prm_inV b2) ?_)
    intro m6 h6 hm M6 v6 f6
    rw [v5] at M6
    conv => whnf
    exact hQ m6 h6 hm M6 ((((((f1.mono (by decide)).trans f2).trans (f3.mono (by decide))).trans f4).trans (f5.mono (by decide))).trans f6)
  have loop : ∀ {call : Callee}, call = wpC sc (d + 3) → ∀ n i, i + n = G.length → (∃ g ∈ G.drop i, g.1 ≠ 0) → fpt G = fpt (G.drop i) → Runs (d + 3) call sc m_X4_makePoint (qth (mTh m_X4_makePoint) Q) 2 [(0, .ref 60), (1, .int (nI i))] [] h 0 0 := by
    intro call hc n
    induction n with
    | zero =>
      intro i hi hex _
      rw [List.drop_eq_nil_of_le (by omega)] at hex
      obtain ⟨g, hg, _⟩ := hex
      exact absurd hg List.not_mem_nil
    | succ n ih =>
      intro i hi hex hfp
      have hil : i < G.length := by omega
      have e0 : m 4 (3 * i) = (gt G i).1 := congrArg Prod.fst (hG.v0 hil)
      have hg0 := (hgi _ (gt_mem hil)).1
      rw [drop_gt hil] at hex hfp
      rw [fpt_cons] at hfp
      refine go hc 9 (fun K hK => ?_)
      conv => whnf
      refine ⟨_, _, hm.M, rfl, ?_⟩
      conv => whnf
      refine ⟨_, _, hm.L4, ixv (k := (3) * (i)) (im ((rfl : (3 : Int32) = nI 3)) ((rfl : nI (i) = nI (i)))) (by omega) (Nat.le_of_ble_eq_true rfl), ?_⟩
      rw [ixc (k := (3) * (i)) (im ((rfl : (3 : Int32) = nI 3)) ((rfl : nI (i) = nI (i)))) (by omega)]
      conv => whnf
      unfold mL
      rw [e0]
      by_cases c : (gt G i).1 = 0
      · rw [if_pos c] at hfp
        refine ⟨fun c_ => ?_, fun c_ => absurd ((kEq0 hg0).mpr c) c_⟩
        conv => whnf
        refine hK _ _ _ _ _ _ (go hc 2 (fun K hK => ?_))
        conv => whnf
        have hex' : ∃ g ∈ G.drop (i + 1), g.1 ≠ 0 := by
          obtain ⟨g, hg, hn⟩ := hex
          rcases List.mem_cons.mp hg with q | q
          · rw [q] at hn; exact absurd c hn
          · exact ⟨g, q, hn⟩
        try simp only [nI_1]
        refine hK _ _ _ _ _ _ (Runs.less hc [0, 1] rfl rfl rfl rfl (ih (i + 1) (by omega) hex' hfp))
      · rw [if_neg c] at hfp
        refine ⟨fun c_ => absurd c_ (fun q => c ((kEq0 hg0).mp q)), fun c_ => ?_⟩
        conv => whnf
        refine hK _ _ _ _ _ _ (n21 hc i hil hfp)
  refine enter rfl rfl (fun call hc => go hc 2 (fun K hK => ?_))
  conv => whnf
  try simp only [nI_1]
  refine hK _ _ _ _ _ _ (Runs.less hc [0, 1] rfl rfl rfl rfl (loop hc G.length 0 (by omega) hpt rfl))
theorem oI_pd (a b c e : Int) : Int64.ofInt a * Int64.ofInt b + Int64.ofInt c * Int64.ofInt e = Int64.ofInt (a * b + c * e) := by rw [Int64.ofInt_add, Int64.ofInt_mul, Int64.ofInt_mul]
theorem dot_perp (q v : V3) : dot q (perpV v) = q.2.1 * -v.2.2 + q.2.2 * v.2.1 := by
  unfold dot perpV
  simp
/-- the row whose line it would be -/
def mlV (M : Nat → List V3) (dm : Nat) : V3 := gt (M (if dm = 1 then 0 else 1)) 0
theorem e_makeLines (hm : MR m D Z h) (hM : Mk m M) (hMo : Mok M) {dm : Nat} {Y : Int32} (hY : Y = nI dm) (hdm : dm = 1 ∨ dm = 2) (h01 : dm = 1 → M 0 ≠ []) (l2 : M 2 = []) (hb : ∀ q ∈ M 1, inL (dot q (perpV (mlV M dm))))
    (hQ : ∀ m' h', MR m' D Z h' → Mk m' (mlF M dm) → Fx [7, 10, 11] m m' → Q (.inl none) h') : wpC sc (d + 4) 113 [.ref 60, .int Y] h Q := by
  have q1 := hM.le (show 1 < 5 by omega)
  have iu1 : inV ((0, 1, 0) : V3) := ⟨inL_0, inL_1, inL_0⟩
  have iu2 : inV ((0, 0, 1) : V3) := ⟨inL_0, inL_0, inL_1⟩
  -- from 54 on
  have n54 : ∀ {call : Callee}, call = wpC sc (d + 3) → ¬ (dm = 2 ∧ M 1 = []) → ¬ (dm = 1 ∧ M 1 ≠ []) → Runs (d + 3) call sc m_X4_makeLines (qth (mTh m_X4_makeLines) Q) 54 [(0, .ref 60), (1, .int Y)] [] h 0 0 := by
    intro call hc n1 n2
    unfold mlF at hQ
    rw [if_neg n1, if_neg n2] at hQ
    have hQ : ∀ m' h', MR m' D Z h' → Mk m' (if (M 1).all (fun q => decide (dot q (perpV (mlV M dm)) = 0)) = true then mkM M 2 (rctV (prm (perpV (mlV M dm)))) else M) → Fx [7, 10, 11] m m' → Q (.inl none) h' := hQ
    have hkk : ∃ k, k = (if dm = 1 then 0 else 1) ∧ k < 2 ∧ 0 < (M k).length := by
      rcases hdm with e | e
      · exact ⟨0, by rw [if_pos e], by omega, List.length_pos_iff.mpr (h01 e)⟩
      · exact ⟨1, by rw [if_neg (by omega)], by omega, List.length_pos_iff.mpr fun q => n1 ⟨e, q⟩⟩
    obtain ⟨k, hke, hk2, hkl⟩ := hkk
    have hrow : vAt m 11 (1800 * k + 3 * 0) = mlV M dm := by
      unfold mlV
      rw [← hke]
      exact hM.row (by omega) hkl
    have hvi : inV (mlV M dm) := by
      unfold mlV
      rw [← hke]
      exact hMo k (by omega) _ (gt_mem hkl)
    generalize mlV M dm = v at *
    have e1 : m 11 (1800 * k + 3 * 0 + 1) = v.2.1 := congrArg (fun v : V3 => v.2.1) hrow
    have e2 : m 11 (1800 * k + 3 * 0 + 2) = v.2.2 := congrArg (fun v : V3 => v.2.2) hrow
    have ipv : inV (perpV v) := ⟨inL_0, hvi.2.2.neg, hvi.2.1⟩
    have n93 : ∀ (P : Int32) n i, i + n = (M 1).length → (M 1).all (fun q => decide (dot q (perpV v) = 0)) = ((M 1).drop i).all (fun q => decide (dot q (perpV v) = 0)) →
        Runs (d + 3) call sc m_X4_makeLines (qth (mTh m_X4_makeLines) Q) 93 [(0, .ref 60), (1, .int Y), (2, .int P), (3, .long (Int64.ofInt (-v.2.2))), (5, .long (Int64.ofInt v.2.1)), (7, .int (nI i))] [] h 0 0 := by
      intro P n
      induction n with
      | zero =>
        intro i hi hall
        rw [List.drop_eq_nil_of_le (by omega)] at hall
        rw [hall] at hQ
        have hQ : ∀ m' h', MR m' D Z h' → Mk m' (mkM M 2 (rctV (prm (perpV v)))) → Fx [7, 10, 11] m m' → Q (.inl none) h' := hQ
        refine go hc 6 (fun K hK => ?_)
        conv => whnf
        refine ⟨_, _, hm.M, rfl, ?_⟩
        conv => whnf
        refine Or.inr ⟨_, _, hm.I10, ixv (k := 1) ((rfl : (1 : Int32) = nI 1)) (by omega) (Nat.le_of_ble_eq_true rfl), ?_⟩
        rw [ixc (k := 1) ((rfl : (1 : Int32) = nI 1)) (by omega)]
        conv => whnf
        rw [hM.cnt (by omega)]
        refine ⟨fun c_ => ?_, fun c_ => absurd (nI_le (by omega) (by omega)) c_⟩
        conv => whnf
        refine hK _ _ _ _ _ _ ?_
        refine go hc 11 (fun K hK => ?_)
        conv => whnf
        refine ⟨_, hm.M, Nat.le_of_ble_eq_true rfl, ?_⟩
        conv => whnf
        refine callee hc (e_put hm (perpV v) rfl rfl rfl ipv ?_)
        intro m1 h1 hm v1 f1
        conv => whnf
        refine ⟨_, hm.M, Nat.le_of_ble_eq_true rfl, ?_⟩
        conv => whnf
        refine callee hc (e_rectify hm v1 (prm_inV ipv) ?_)
        intro m2 h2 hm v2 f2
        conv => whnf
        refine ⟨_, hm.M, Nat.le_of_ble_eq_true rfl, ?_⟩
        conv => whnf
        refine callee hc (e_make hm (k := 2) rfl (by omega) ((hM.fx f1 (by decide) (by decide)).fx f2 (by decide) (by decide)) (by rw [l2]; decide) (hMo 2 (by omega)) (by rw [v2]; exact inV_rct (prm_inV ipv)) ?_)
        intro m3 h3 hm M3 v3 f3
        rw [v2] at M3
        conv => whnf
        exact hQ m3 h3 hm M3 (((f1.mono (by decide)).trans (f2.mono (by decide))).trans f3)
      | succ n ih =>
        intro i hi hall
        have hil : i < (M 1).length := by omega
        have hq := hM.row (show 1 < 5 by omega) hil
        have g1 : m 11 (1800 * 1 + 3 * i + 1) = (gt (M 1) i).2.1 := congrArg (fun v : V3 => v.2.1) hq
        have g2 : m 11 (1800 * 1 + 3 * i + 2) = (gt (M 1) i).2.2 := congrArg (fun v : V3 => v.2.2) hq
        have hbi := hb _ (gt_mem hil)
        rw [drop_gt hil, List.all_cons] at hall
        refine go hc 6 (fun K hK => ?_)
        conv => whnf
        refine ⟨_, _, hm.M, rfl, ?_⟩
        conv => whnf
        refine Or.inr ⟨_, _, hm.I10, ixv (k := 1) ((rfl : (1 : Int32) = nI 1)) (by omega) (Nat.le_of_ble_eq_true rfl), ?_⟩
        rw [ixc (k := 1) ((rfl : (1 : Int32) = nI 1)) (by omega)]
        conv => whnf
        rw [hM.cnt (by omega)]
        refine ⟨fun c_ => absurd c_ (nI_ge hil (by omega)), fun c_ => ?_⟩
        conv => whnf
        refine hK _ _ _ _ _ _ (go hc 25 (fun K hK => ?_))
        conv => whnf
        refine ⟨_, hm.M, Nat.le_of_ble_eq_true rfl, ?_⟩
        conv => whnf
        refine callee hc (e_place (k := 1) (i := i) rfl rfl ?_)
        conv => whnf
        refine ⟨_, _, hm.M, rfl, ?_⟩
        conv => whnf
        refine ⟨_, _, hm.L11, ixv (k := (1800 * 1 + 3 * i) + (1)) (ia ((rfl : nI (1800 * 1 + 3 * i) = nI (1800 * 1 + 3 * i))) ((rfl : (1 : Int32) = nI 1))) (by omega) (Nat.le_of_ble_eq_true rfl), ?_⟩
        rw [ixc (k := (1800 * 1 + 3 * i) + (1)) (ia ((rfl : nI (1800 * 1 + 3 * i) = nI (1800 * 1 + 3 * i))) ((rfl : (1 : Int32) = nI 1))) (by omega)]
        conv => whnf
        refine ⟨_, _, hm.M, rfl, ?_⟩
        conv => whnf
        refine ⟨_, _, hm.L11, ixv (k := (1800 * 1 + 3 * i) + (2)) (ia ((rfl : nI (1800 * 1 + 3 * i) = nI (1800 * 1 + 3 * i))) ((rfl : (2 : Int32) = nI 2))) (by omega) (Nat.le_of_ble_eq_true rfl), ?_⟩
        rw [ixc (k := (1800 * 1 + 3 * i) + (2)) (ia ((rfl : nI (1800 * 1 + 3 * i) = nI (1800 * 1 + 3 * i))) ((rfl : (2 : Int32) = nI 2))) (by omega)]
        conv => whnf
        unfold mL
        rw [g1, g2, oI_pd, ← dot_perp]
        by_cases c : dot (gt (M 1) i) (perpV v) = 0
        · rw [decide_eq_true c, Bool.true_and] at hall
          refine ⟨fun c_ => ?_, fun c_ => absurd ((kEq0 hbi).mpr c) c_⟩
          conv => whnf
          refine hK _ _ _ _ _ _ ?_
          refine go hc 2 (fun K hK => ?_)
          conv => whnf
          try simp only [nI_1]
          refine hK _ _ _ _ _ _ (Runs.less hc [0, 1, 2, 3, 5, 7] rfl rfl rfl rfl (ih (i + 1) (by omega) hall))
        · rw [decide_eq_false c, Bool.false_and] at hall
          rw [hall] at hQ
          have hQ : ∀ m' h', MR m' D Z h' → Mk m' M → Fx [7, 10, 11] m m' → Q (.inl none) h' := hQ
          refine ⟨fun c_ => absurd c_ (fun q => c ((kEq0 hbi).mp q)), fun c_ => ?_⟩
          conv => whnf
          refine hK _ _ _ _ _ _ (go hc 1 (fun K hK => ?_))
          conv => whnf
          exact hQ m h hm hM Fx.refl
    have n65 : Runs (d + 3) call sc m_X4_makeLines (qth (mTh m_X4_makeLines) Q) 65 [(0, .ref 60), (1, .int Y)] [.int (nI k), .ref 60] h 0 0 := by
      refine go hc 20 (fun K hK => ?_)
      conv => whnf
      refine ⟨_, hm.M, Nat.le_of_ble_eq_true rfl, ?_⟩
      conv => whnf
      refine callee hc (e_place (k := k) (i := 0) rfl rfl ?_)
      conv => whnf
      refine ⟨_, _, hm.M, rfl, ?_⟩
      conv => whnf
      refine ⟨_, _, hm.L11, ixv (k := (1800 * k + 3 * 0) + (2)) (ia ((rfl : nI (1800 * k + 3 * 0) = nI (1800 * k + 3 * 0))) ((rfl : (2 : Int32) = nI 2))) (by omega) (Nat.le_of_ble_eq_true rfl), ?_⟩
      rw [ixc (k := (1800 * k + 3 * 0) + (2)) (ia ((rfl : nI (1800 * k + 3 * 0) = nI (1800 * k + 3 * 0))) ((rfl : (2 : Int32) = nI 2))) (by omega)]
      conv => whnf
      refine ⟨_, _, hm.M, rfl, ?_⟩
      conv => whnf
      refine ⟨_, _, hm.L11, ixv (k := (1800 * k + 3 * 0) + (1)) (ia ((rfl : nI (1800 * k + 3 * 0) = nI (1800 * k + 3 * 0))) ((rfl : (1 : Int32) = nI 1))) (by omega) (Nat.le_of_ble_eq_true rfl), ?_⟩
      rw [ixc (k := (1800 * k + 3 * 0) + (1)) (ia ((rfl : nI (1800 * k + 3 * 0) = nI (1800 * k + 3 * 0))) ((rfl : (1 : Int32) = nI 1))) (by omega)]
      conv => whnf
      unfold mL
      rw [e1, e2, ← Int64.ofInt_neg]
      try simp only [nI_1]
      refine hK _ _ _ _ _ _ (Runs.less hc [0, 1, 2, 3, 5, 7] rfl rfl rfl rfl (n93 _ (M 1).length 0 (by omega) rfl))
    refine go hc 4 (fun K hK => ?_)
    conv => whnf
    rcases hdm with e | e
    · rw [if_pos e] at hke
      subst hke
      refine ⟨fun c_ => ?_, fun c_ => absurd (by rw [hY, e]; rfl) c_⟩
      conv => whnf
      refine hK _ _ _ _ _ _ (go hc 2 (fun K hK => ?_))
      conv => whnf
      try simp only [nI_1]
      refine hK _ _ _ _ _ _ (Runs.less hc [0, 1] rfl rfl rfl rfl n65)
    · rw [if_neg (by omega)] at hke
      subst hke
      refine ⟨fun c_ => absurd c_ (by rw [hY, e]; decide), fun c_ => ?_⟩
      conv => whnf
      refine hK _ _ _ _ _ _ (go hc 1 (fun K hK => ?_))
      conv => whnf
      try simp only [nI_1]
      refine hK _ _ _ _ _ _ (Runs.less hc [0, 1] rfl rfl rfl rfl n65)
  have n39 : ∀ {call : Callee}, call = wpC sc (d + 3) → ¬ (dm = 2 ∧ M 1 = []) → Runs (d + 3) call sc m_X4_makeLines (qth (mTh m_X4_makeLines) Q) 39 [(0, .ref 60), (1, .int Y)] [] h 0 0 := by
    intro call hc n1
    refine go hc 3 (fun K hK => ?_)
    conv => whnf
    rcases hdm with e | e
    · refine ⟨fun c_ => ?_, fun c_ => absurd (by rw [hY, e]; rfl) c_⟩
      conv => whnf
      refine hK _ _ _ _ _ _ (go hc 5 (fun K hK => ?_))
      conv => whnf
      refine ⟨_, _, hm.M, rfl, ?_⟩
      conv => whnf
      refine Or.inr ⟨_, _, hm.I10, ixv (k := 1) ((rfl : (1 : Int32) = nI 1)) (by omega) (Nat.le_of_ble_eq_true rfl), ?_⟩
      rw [ixc (k := 1) ((rfl : (1 : Int32) = nI 1)) (by omega)]
      conv => whnf
      rw [hM.cnt (by omega)]
      by_cases c : M 1 = []
      · refine ⟨fun c_ => ?_, fun c_ => absurd (by rw [c]; decide) c_⟩
        conv => whnf
        refine hK _ _ _ _ _ _ (n54 hc n1 fun q => q.2 c)
      · unfold mlF at hQ
        rw [if_neg n1, if_pos ⟨e, c⟩] at hQ
        refine ⟨fun c_ => absurd c_ (nI_nle (List.length_pos_iff.mpr c) (by omega)), fun c_ => ?_⟩
        conv => whnf
        refine hK _ _ _ _ _ _ (go hc 1 (fun K hK => ?_))
        conv => whnf
        exact hQ m h hm hM Fx.refl
    · refine ⟨fun c_ => absurd c_ (by rw [hY, e]; decide), fun c_ => ?_⟩
      conv => whnf
      refine hK _ _ _ _ _ _ (n54 hc n1 fun q => by have := q.1; omega)
  refine enter rfl rfl (fun call hc => go hc 3 (fun K hK => ?_))
  conv => whnf
  rcases hdm with e | e
  · refine ⟨fun c_ => absurd c_ (by rw [hY, e]; decide), fun c_ => ?_⟩
    conv => whnf
    refine hK _ _ _ _ _ _ (n39 hc fun q => by have := q.1; omega)
  · refine ⟨fun c_ => ?_, fun c_ => absurd (by rw [hY, e]; rfl) c_⟩
    conv => whnf
    refine hK _ _ _ _ _ _ (go hc 5 (fun K hK => ?_))
    conv => whnf
    refine ⟨_, _, hm.M, rfl, ?_⟩
    conv => whnf
    refine Or.inr ⟨_, _, hm.I10, ixv (k := 1) ((rfl : (1 : Int32) = nI 1)) (by omega) (Nat.le_of_ble_eq_true rfl), ?_⟩
    rw [ixc (k := 1) ((rfl : (1 : Int32) = nI 1)) (by omega)]
    conv => whnf
    rw [hM.cnt (by omega)]
    by_cases c : M 1 = []
    · unfold mlF at hQ
      rw [if_pos ⟨e, c⟩] at hQ
      have q2 := mkM_len M 2 2 (prm (0, 1, 0))
      rw [l2, List.length_nil] at q2
      refine ⟨fun c_ => ?_, fun c_ => absurd (by rw [c]; rfl) c_⟩
      conv => whnf
      refine hK _ _ _ _ _ _ (go hc 17 (fun K hK => ?_))
      conv => whnf
      refine ⟨_, hm.M, Nat.le_of_ble_eq_true rfl, ?_⟩
      conv => whnf
      refine callee hc (e_put hm (0, 1, 0) rfl rfl rfl iu1 ?_)
      intro m1 h1 hm v1 f1
      conv => whnf
      refine ⟨_, hm.M, Nat.le_of_ble_eq_true rfl, ?_⟩
      conv => whnf
      refine callee hc (e_make hm (k := 2) rfl (by omega) (hM.fx f1 (by decide) (by decide)) (by rw [l2]; decide) (hMo 2 (by omega)) (by rw [v1]; exact prm_inV iu1) ?_)
      intro m2 h2 hm M2 v2 f2
      rw [v1] at M2
      conv => whnf
      refine ⟨_, hm.M, Nat.le_of_ble_eq_true rfl, ?_⟩
      conv => whnf
      refine callee hc (e_put hm (0, 0, 1) rfl rfl rfl iu2 ?_)
      intro m3 h3 hm v3 f3
      conv => whnf
      refine ⟨_, hm.M, Nat.le_of_ble_eq_true rfl, ?_⟩
      conv => whnf
      refine callee hc (e_make hm (k := 2) rfl (by omega) (Mk.fx M2 f3 (by decide) (by decide)) (show (mkM M 2 (prm (0, 1, 0)) 2).length < 600 by omega) ((hMo.mk (k := 2) (prm_inV iu1)) 2 (by omega)) (by rw [v3]; exact prm_inV iu2) ?_)
      intro m4 h4 hm M4 v4 f4
      rw [v3] at M4
      conv => whnf
      exact hQ m4 h4 hm M4 ((((f1.mono (by decide)).trans f2).trans (f3.mono (by decide))).trans f4)
    · refine ⟨fun c_ => absurd c_ (nI_ne0 (List.length_pos_iff.mpr c) (by omega)), fun c_ => ?_⟩
      conv => whnf
      refine hK _ _ _ _ _ _ (n39 hc fun q => c q.2)
end ELINES
