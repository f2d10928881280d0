/-! across a line -/
abbrev AcS : Type := Option Nat × Option Nat × Bool × Bool × (Nat → List V3)
def lwA (Gc : List V3) (z i : Nat) : Option Nat → Option Nat
  | none => some i
  | some q => if cmp3 (gt Gc i) z * (gt Gc q).1 < cmp3 (gt Gc q) z * (gt Gc i).1 then some i else some q
def hgA (Gc : List V3) (z i : Nat) : Option Nat → Option Nat
  | none => some i
  | some q => if cmp3 (gt Gc q) z * (gt Gc i).1 < cmp3 (gt Gc i) z * (gt Gc q).1 then some i else some q
def acS (Gc : List V3) (z i : Nat) (s : AcS) : AcS :=
  if (gt Gc i).1 = 0 then (s.1, s.2.1, s.2.2.1 || decide (0 < cmp3 (gt Gc i) z), s.2.2.2.1 || decide (cmp3 (gt Gc i) z < 0), if cmp3 (gt Gc i) z = 0 then s.2.2.2.2 else mkM s.2.2.2.2 3 (gt Gc i))
  else (lwA Gc z i s.1, hgA Gc z i s.2.1, s.2.2.1, s.2.2.2.1, s.2.2.2.2)
def ac2 (Gc : List V3) (z : Nat) : Nat → Nat → AcS → AcS
  | 0, _, s => s
  | n + 1, i, s => ac2 Gc z n (i + 1) (acS Gc z i s)
def acR (M : Nat → List V3) (u : V3) (G : List V3) : AcS := ac2 (G.map fun g => cleV u (prm g)) (3 - pvt u) G.length 0 (none, none, false, false, M)
def acM (Gc : List V3) (b : Bool) (o : Option Nat) (M : Nat → List V3) : Nat → List V3 := if b = true then M else mkM M 4 (prm (gt Gc (o.getD 0)))
def acE (Gc : List V3) (s : AcS) : Nat → List V3 := acM Gc s.2.2.1 s.2.1 (acM Gc s.2.2.2.1 s.1 s.2.2.2.2)
def acrF (M : Nat → List V3) (u : V3) (G : List V3) : Nat → List V3 := acE (G.map fun g => cleV u (prm g)) (acR M u G)
theorem RW.put {m m' : MM} {a : Nat} {l : List V3} {i : Nat} {v : V3} (h : RW m a 0 l) (hi : i < l.length) (ho : ∀ j, j < 3 * i ∨ 3 * i + 2 < j → m' a j = m a j) (hv : vAt m' a (3 * i) = v) : RW m' a 0 (l.set i v) := by
  intro k hk
  rw [List.length_set] at hk
  rw [Nat.zero_add, gt_set hi]
  by_cases c : i = k
  · rw [if_pos c, ← c]; exact hv
  · rw [if_neg c, ← h.v0 hk]
    unfold vAt
    rw [ho _ (by omega), ho _ (by omega), ho _ (by omega)]
theorem take_set {A B : List V3} {i : Nat} (hl : A.length = B.length) (hi : i < B.length) : (A.take i ++ B.drop i).set i (gt A i) = A.take (i + 1) ++ B.drop (i + 1) := by
  have h1 : (A.take i).length = i := by rw [List.length_take]; omega
  rw [List.set_append_right _ _ (by omega), h1, Nat.sub_self, drop_gt hi, List.set_cons_zero, take_gt (by omega), List.append_assoc]; rfl
theorem gt_map {f : V3 → V3} {l : List V3} {i : Nat} (h : i < l.length) : gt (l.map f) i = f (gt l i) := by
  refine gt_of ?_
  rw [List.getElem?_map, gt_some h]; rfl
section EACROSS
variable {sc : Scr} {d : Nat} {m : MM} {D Z h : PH} {Q : Out → PH → Prop} {C G : List V3} {M : Nat → List V3}
theorem ax_loop {call : Callee} (hc : call = wpC sc (d + 4)) {m0 : MM} {u : V3} {Gc : List V3} (hGc : Gc = G.map fun g => cleV u (prm g)) {z : Nat} (hz : z < 3) (hgl : G.length ≤ 600) (hgi : ∀ g ∈ G, inV g) (hui : inV u) (hcl : ∀ g ∈ G, inV (lin (cmp3 u (pvt u)) (-(cmp3 (prm g) (pvt u))) (prm g) u)) (hpr : ∀ c ∈ Gc, ∀ c' ∈ Gc, inL (cmp3 c z * c'.1)) {R : AcS}
    (hQ : ∀ m' h', MR m' D Z h' → RW m' 4 0 Gc → Mk m' R.2.2.2.2 → Mok R.2.2.2.2 → (R.2.2.2.2 4) = M 4 → (∀ q, R.1 = some q → q < Gc.length) → (∀ q, R.2.1 = some q → q < Gc.length) → Fx [4, 7, 10, 11] m0 m' → Runs (d + 4) call sc m_X4_makeAcross Q 259 [(0, .ref 60), (1, .int (nI 3600)), (2, .int (nI z)), (3, .int (fwI R.1)), (4, .int (fwI R.2.1)), (5, .int (bI01 R.2.2.1)), (6, .int (bI01 R.2.2.2.1))] [] h' 0 0) :
    ∀ (n i : Nat) (m : MM) (h : PH) (s : AcS), i + n = G.length → MR m D Z h → m 14 0 = (G.length : Int) → RW m 4 0 (Gc.take i ++ G.drop i) → vAt m 11 3600 = u → Mk m s.2.2.2.2 → Mok s.2.2.2.2 → s.2.2.2.2 4 = M 4 → s.2.2.2.2 2 = M 2 → (s.2.2.2.2 3).length + n ≤ 600 → 0 < (M 2).length → gt (M 2) 0 = u → (∀ q, s.1 = some q → q < i) → (∀ q, s.2.1 = some q → q < i) → Fx [4, 7, 10, 11] m0 m → ac2 Gc z n i s = R →
    Runs (d + 4) call sc m_X4_makeAcross Q 29 [(0, .ref 60), (1, .int (nI 3600)), (2, .int (nI z)), (3, .int (fwI s.1)), (4, .int (fwI s.2.1)), (5, .int (bI01 s.2.2.1)), (6, .int (bI01 s.2.2.2.1)), (7, .int (nI i))] [] h 0 0 := by
  have hlen : Gc.length = G.length := by rw [hGc, List.length_map]
  intro n
  induction n with
  | zero =>
    intro i m h s hi hm hgn hG hu hM hMo h4 _ l3 _ _ hlo hhi hf hR
    have hR : s = R := hR
    subst hR
    rw [List.take_of_length_le (by omega), List.drop_eq_nil_of_le (by omega), List.append_nil] at hG
    have F5 := mF_of hgn
    refine go hc 4 (fun K hK => ?_)
    conv => whnf
    refine ⟨_, _, hm.M, rfl, ?_⟩
    rw [F5]
    conv => whnf
    refine ⟨fun c_ => ?_, fun c_ => absurd (nI_le (by omega) (by omega)) c_⟩
    conv => whnf
    try simp only [nI_1]
    refine hK _ _ _ _ _ _ (Runs.less hc [0, 1, 2, 3, 4, 5, 6] rfl rfl rfl rfl (hQ m h hm hG hM hMo h4 (fun q hq => by have := hlo q hq; omega) (fun q hq => by have := hhi q hq; omega) hf))
  | succ n ih =>
    intro i m h s hi hm hgn hG hu hM hMo h4 h2 l3 l2 hu2 hlo hhi hf hR
    have hil : i < G.length := by omega
    have F5 := mF_of hgn
    have hgm := gt_mem hil
    have hGl : (Gc.take i ++ G.drop i).length = G.length := by rw [List.length_append, List.length_take, List.length_drop]; omega
    have egi : gt (Gc.take i ++ G.drop i) i = gt G i := by
      have h1 : (Gc.take i).length = i := by rw [List.length_take]; omega
      refine gt_of ?_
      rw [List.getElem?_append_right (by omega), h1, Nat.sub_self, drop_gt hil]; rfl
    have hgv : vAt m 4 (3 * i) = gt G i := by rw [hG.v0 (by omega), egi]
    have eci : gt Gc i = cleV u (prm (gt G i)) := by rw [hGc]; exact gt_map hil
    have hcm : gt Gc i ∈ Gc := gt_mem (by omega)
    have hci : inV (gt Gc i) := by rw [eci]; exact prm_inV (hcl _ hgm)
    have hR' : ac2 Gc z n (i + 1) (acS Gc z i s) = R := hR
    refine go hc 4 (fun K hK => ?_)
    conv => whnf
    refine ⟨_, _, hm.M, rfl, ?_⟩
    rw [F5]
    conv => whnf
    refine ⟨fun c_ => absurd c_ (nI_ge hil (by omega)), fun c_ => ?_⟩
    conv => whnf
    refine hK _ _ _ _ _ _ (go hc 13 (fun K hK => ?_))
    conv => whnf
    refine ⟨_, _, hm.M, rfl, ?_⟩
    conv => whnf
    refine ⟨_, hm.M, Nat.le_of_ble_eq_true rfl, ?_⟩
    conv => whnf
    refine callee hc (e_load hm (a := 4) (by decide) rfl (show 3 * i + 2 < 1800 by omega) hgv (hgi _ hgm) ?_)
    intro m1 h1 hm v1 f1
    conv => whnf
    refine ⟨_, hm.M, Nat.le_of_ble_eq_true rfl, ?_⟩
    conv => whnf
    refine callee hc (e_clear hm (p := 3600) rfl (by omega) (show vAt m1 11 3600 = u by rw [vAt_eq (f1 11 (by decide))]; exact hu) hui v1 (hcl _ hgm) ?_)
    intro m2 h2 hm v2 f2
    rw [← eci] at v2
    conv => whnf
    have f2' : Fx [4, 7, 10, 11] m m2 := (f1.mono (by decide)).trans (f2.mono (by decide))
    have k0 : m2 7 0 = (gt Gc i).1 := congrArg Prod.fst v2
    have k1 : m2 7 1 = (gt Gc i).2.1 := congrArg (fun v : V3 => v.2.1) v2
    have k2 : m2 7 2 = (gt Gc i).2.2 := congrArg (fun v : V3 => v.2.2) v2
    have hG2 : RW m2 4 0 (Gc.take i ++ G.drop i) := (hG.eq (f1 4 (by decide))).eq (f2 4 (by decide))
    refine ⟨fun c_ => absurd c_ (by decide), fun c_ => ?_⟩
    conv => whnf
    refine hK _ _ _ _ _ _ (go hc 17 (fun K hK => ?_))
    conv => whnf
    refine ⟨_, _, hm.M, rfl, ?_⟩
    conv => whnf
    refine ⟨_, _, hm.M, rfl, ?_⟩
    conv => whnf
    refine ⟨_, _, hm.L7, ixv (k := 0) ((rfl : (0 : Int32) = nI 0)) (by omega) (Nat.le_of_ble_eq_true rfl), ?_⟩
    rw [ixc (k := 0) ((rfl : (0 : Int32) = nI 0)) (by omega)]
    conv => whnf
    refine ⟨_, _, hm.L4, ixv (k := ((3) * (i)) + (0)) (ia (im ((rfl : (3 : Int32) = nI 3)) ((rfl : nI (i) = nI (i)))) ((rfl : (0 : Int32) = nI 0))) (by omega) (Nat.le_of_ble_eq_true rfl), ?_⟩
    rw [ixc (k := ((3) * (i)) + (0)) (ia (im ((rfl : (3 : Int32) = nI 3)) ((rfl : nI (i) = nI (i)))) ((rfl : (0 : Int32) = nI 0))) (by omega)]
    replace hm := hm.sL (a := 4) (i := ((3) * (i)) + (0)) (by decide) ((show mL m2 7 0 = Int64.ofInt (m2 7 0) from rfl))
    conv => whnf
    refine ⟨fun c_ => absurd c_ (by decide), fun c_ => ?_⟩
    conv => whnf
    refine hK _ _ _ _ _ _ (go hc 17 (fun K hK => ?_))
    conv => whnf
    refine ⟨_, _, hm.M, rfl, ?_⟩
    conv => whnf
    refine ⟨_, _, hm.M, rfl, ?_⟩
    conv => whnf
    refine ⟨_, _, hm.L7, ixv (k := 0 + 1) (ia ((rfl : (0 : Int32) = nI 0)) (rfl : (1 : Int32) = nI 1)) (by omega) (Nat.le_of_ble_eq_true rfl), ?_⟩
    rw [ixc (k := 0 + 1) (ia ((rfl : (0 : Int32) = nI 0)) (rfl : (1 : Int32) = nI 1)) (by omega)]
    conv => whnf
    refine ⟨_, _, hm.L4, ixv (k := ((3) * (i)) + (0 + 1)) (ia (im ((rfl : (3 : Int32) = nI 3)) ((rfl : nI (i) = nI (i)))) (ia ((rfl : (0 : Int32) = nI 0)) (rfl : (1 : Int32) = nI 1))) (by omega) (Nat.le_of_ble_eq_true rfl), ?_⟩
    rw [ixc (k := ((3) * (i)) + (0 + 1)) (ia (im ((rfl : (3 : Int32) = nI 3)) ((rfl : nI (i) = nI (i)))) (ia ((rfl : (0 : Int32) = nI 0)) (rfl : (1 : Int32) = nI 1))) (by omega)]
    replace hm := hm.sL (a := 4) (i := ((3) * (i)) + (0 + 1)) (by decide) ((show mL (mu m2 4 (3 * i + 0) (m2 7 0)) 7 (0 + 1) = Int64.ofInt (m2 7 1) from rfl))
    conv => whnf
    refine ⟨fun c_ => absurd c_ (by decide), fun c_ => ?_⟩
    conv => whnf
    refine hK _ _ _ _ _ _ (go hc 17 (fun K hK => ?_))
    conv => whnf
    refine ⟨_, _, hm.M, rfl, ?_⟩
    conv => whnf
    refine ⟨_, _, hm.M, rfl, ?_⟩
    conv => whnf
    refine ⟨_, _, hm.L7, ixv (k := 0 + 1 + 1) (ia (ia ((rfl : (0 : Int32) = nI 0)) (rfl : (1 : Int32) = nI 1)) (rfl : (1 : Int32) = nI 1)) (by omega) (Nat.le_of_ble_eq_true rfl), ?_⟩
    rw [ixc (k := 0 + 1 + 1) (ia (ia ((rfl : (0 : Int32) = nI 0)) (rfl : (1 : Int32) = nI 1)) (rfl : (1 : Int32) = nI 1)) (by omega)]
    conv => whnf
    refine ⟨_, _, hm.L4, ixv (k := ((3) * (i)) + (0 + 1 + 1)) (ia (im ((rfl : (3 : Int32) = nI 3)) ((rfl : nI (i) = nI (i)))) (ia (ia ((rfl : (0 : Int32) = nI 0)) (rfl : (1 : Int32) = nI 1)) (rfl : (1 : Int32) = nI 1))) (by omega) (Nat.le_of_ble_eq_true rfl), ?_⟩
    rw [ixc (k := ((3) * (i)) + (0 + 1 + 1)) (ia (im ((rfl : (3 : Int32) = nI 3)) ((rfl : nI (i) = nI (i)))) (ia (ia ((rfl : (0 : Int32) = nI 0)) (rfl : (1 : Int32) = nI 1)) (rfl : (1 : Int32) = nI 1))) (by omega)]
    replace hm := hm.sL (a := 4) (i := ((3) * (i)) + (0 + 1 + 1)) (by decide) ((show mL (mu (mu m2 4 (3 * i + 0) (m2 7 0)) 4 (3 * i + (0 + 1)) (m2 7 1)) 7 (0 + 1 + 1) = Int64.ofInt (m2 7 2) from rfl))
    conv => whnf
    obtain ⟨m3, hg3⟩ : ∃ x, x = mu (mu (mu m2 4 (3 * i + 0) (m2 7 0)) 4 (3 * i + (0 + 1)) (m2 7 1)) 4 (3 * i + (0 + 1 + 1)) (m2 7 2) := ⟨_, rfl⟩
    have o3 : ∀ j, j < 3 * i ∨ 3 * i + 2 < j → m3 4 j = m2 4 j := fun j hj => by
      rw [hg3, mu_at_ne _ _ _ (by omega), mu_at_ne _ _ _ (by omega), mu_at_ne _ _ _ (by omega)]
    have a0 : m3 4 (3 * i) = m2 7 0 := by
      rw [hg3, mu_at_ne _ _ _ (by omega), mu_at_ne _ _ _ (by omega)]
      exact mu_at _ _ _ _
    have a1 : m3 4 (3 * i + 1) = m2 7 1 := by
      rw [hg3, mu_at_ne _ _ _ (by omega)]
      exact mu_at _ _ _ _
    have a2 : m3 4 (3 * i + 2) = m2 7 2 := by
      rw [hg3]
      exact mu_at _ _ _ _
    have w3 : vAt m3 4 (3 * i) = gt Gc i := by
      rw [← v2]
      unfold vAt
      rw [a0, a1, a2]
    have f23 : Fx [4] m2 m3 := by rw [hg3]; exact ((Fx.refl.mu (by decide)).mu (by decide)).mu (by decide)
    have f3 : Fx [4, 7, 10, 11] m m3 := f2'.trans (f23.mono (by decide))
    have hG3 : RW m3 4 0 (Gc.take (i + 1) ++ G.drop (i + 1)) := by
      rw [← take_set hlen hil]
      exact RW.put hG2 (by omega) o3 w3
    have v3 : vAt m3 7 0 = gt Gc i := by rw [vAt_eq (f23 7 (by decide))]; exact v2
    have hM3 : Mk m3 s.2.2.2.2 := ((hM.fx f1 (by decide) (by decide)).fx f2 (by decide) (by decide)).fx f23 (by decide) (by decide)
    have u3 : vAt m3 11 3600 = u := by rw [vAt_eq (f23 11 (by decide)), vAt_eq (f2 11 (by decide)), vAt_eq (f1 11 (by decide))]; exact hu
    have n3 : m3 14 0 = (G.length : Int) := by rw [f23 14 (by decide), f2 14 (by decide), f1 14 (by decide)]; exact hgn
    have hf3 := hf.trans f3
    -- reading rows that are cleared already
    have gq : ∀ q, q < i → vAt m3 4 (3 * q) = gt Gc q := fun q hq => by
      rw [hG3.v0 (by rw [List.length_append, List.length_take, List.length_drop]; omega), gt_appl (by rw [List.length_take]; omega)]
      refine gt_of ?_
      rw [List.getElem?_take, if_pos (by omega), gt_some (by omega)]
    have cz : m3 7 z = cmp3 (gt Gc i) z := by
      have := vAt_cmp m3 7 0 z hz
      rw [Nat.zero_add] at this
      rw [this, v3]
    have c0 : m3 7 0 = (gt Gc i).1 := congrArg Prod.fst v3
    -- the end of the round
    have n253 : ∀ (m' : MM) (h' : PH) (s' : AcS), s' = acS Gc z i s → MR m' D Z h' → RW m' 4 0 (Gc.take (i + 1) ++ G.drop (i + 1)) → vAt m' 11 3600 = u → m' 14 0 = (G.length : Int) → Mk m' s'.2.2.2.2 → Mok s'.2.2.2.2 → s'.2.2.2.2 4 = M 4 → s'.2.2.2.2 2 = M 2 → (s'.2.2.2.2 3).length + n ≤ 600 → (∀ q, s'.1 = some q → q < i + 1) → (∀ q, s'.2.1 = some q → q < i + 1) → Fx [4, 7, 10, 11] m0 m' →
        Runs (d + 4) call sc m_X4_makeAcross Q 253 [(0, .ref 60), (1, .int (nI 3600)), (2, .int (nI z)), (3, .int (fwI s'.1)), (4, .int (fwI s'.2.1)), (5, .int (bI01 s'.2.2.1)), (6, .int (bI01 s'.2.2.2.1)), (7, .int (nI i))] [] h' 0 0 := by
      intro m' h' s' hs' hm' hG' hu' hn' hM' hMo' h4' h2' l3' hlo' hhi' hf'
      rw [← hs'] at hR'
      refine go hc 2 (fun K hK => ?_)
      conv => whnf
      try simp only [nI_1]
      refine hK _ _ _ _ _ _ (Runs.less hc [0, 1, 2, 3, 4, 5, 6, 7] rfl rfl rfl rfl (ih (i + 1) m' h' s' (by omega) hm' hn' hG' hu' hM' hMo' h4' h2' l3' l2 hu2 hlo' hhi' hf' hR'))
    have n87 : ∀ h3, MR m3 D Z h3 → Runs (d + 4) call sc m_X4_makeAcross Q 87 [(0, .ref 60), (1, .int (nI 3600)), (2, .int (nI z)), (3, .int (fwI s.1)), (4, .int (fwI s.2.1)), (5, .int (bI01 s.2.2.1)), (6, .int (bI01 s.2.2.2.1)), (7, .int (nI i))] [] h3 0 0 := by
      intro h3 hm
      obtain ⟨lo, hi', up, dn, Ms⟩ := s
      simp only at hM3 hMo h4 h2 l3 hlo hhi hR' n253
      refine go hc 7 (fun K hK => ?_)
      conv => whnf
      refine ⟨_, _, hm.M, rfl, ?_⟩
      conv => whnf
      refine ⟨_, _, hm.L7, ixv (k := 0) ((rfl : (0 : Int32) = nI 0)) (by omega) (Nat.le_of_ble_eq_true rfl), ?_⟩
      rw [ixc (k := 0) ((rfl : (0 : Int32) = nI 0)) (by omega)]
      conv => whnf
      unfold mL
      rw [c0]
      by_cases z0 : (gt Gc i).1 = 0
      · have hst : acS Gc z i (lo, hi', up, dn, Ms) = (lo, hi', up || decide (0 < cmp3 (gt Gc i) z), dn || decide (cmp3 (gt Gc i) z < 0), if cmp3 (gt Gc i) z = 0 then Ms else mkM Ms 3 (gt Gc i)) := by unfold acS; rw [if_pos z0]
        rw [hst] at n253
        have hczi : inL (cmp3 (gt Gc i) z) := by
          match z, hz with
          | 0, _ => exact hci.1
          | 1, _ => exact hci.2.1
          | 2, _ => exact hci.2.2
        generalize hcz : cmp3 (gt Gc i) z = w at *
        -- after the second flag
        have n142 : ∀ b1 b2 : Bool, b1 = (up || decide (0 < w)) → b2 = (dn || decide (w < 0)) → Runs (d + 4) call sc m_X4_makeAcross Q 142 [(0, .ref 60), (1, .int (nI 3600)), (2, .int (nI z)), (3, .int (fwI lo)), (4, .int (fwI hi')), (5, .int (bI01 b1)), (6, .int (bI01 dn)), (7, .int (nI i))] [.int (bI01 b2)] h3 0 0 := by
          intro b1 b2 hb1 hb2
          rw [← hb1, ← hb2] at n253
          refine go hc 8 (fun K hK => ?_)
          conv => whnf
          refine ⟨_, _, hm.M, rfl, ?_⟩
          conv => whnf
          refine ⟨_, _, hm.L7, ixv (k := z) ((rfl : nI (z) = nI (z))) (by omega) (Nat.le_of_ble_eq_true rfl), ?_⟩
          rw [ixc (k := z) ((rfl : nI (z) = nI (z))) (by omega)]
          conv => whnf
          unfold mL
          rw [cz]
          by_cases zw : w = 0
          · rw [if_pos zw] at n253
            refine ⟨fun c_ => ?_, fun c_ => absurd ((kEq0 hczi).mpr zw) c_⟩
            conv => whnf
            refine hK _ _ _ _ _ _ (n253 m3 h3 _ rfl hm hG3 u3 n3 hM3 hMo h4 h2 (by show (Ms 3).length + n ≤ 600; omega) (fun q hq => by have := hlo q hq; omega) (fun q hq => by have := hhi q hq; omega) hf3)
          · rw [if_neg zw] at n253
            refine ⟨fun c_ => absurd c_ (fun q => zw ((kEq0 hczi).mp q)), fun c_ => ?_⟩
            conv => whnf
            refine hK _ _ _ _ _ _ (go hc 4 (fun K hK => ?_))
            conv => whnf
            refine ⟨_, hm.M, Nat.le_of_ble_eq_true rfl, ?_⟩
            conv => whnf
            refine callee hc (e_make hm (k := 3) rfl (by omega) hM3 (show (Ms 3).length < 600 by omega) (hMo 3 (by omega)) (by rw [v3]; exact hci) ?_)
            intro m4 h4' hm M4 v4 f4
            rw [v3] at M4
            conv => whnf
            have q3 := mkM_len Ms 3 3 (gt Gc i)
            refine hK _ _ _ _ _ _ (n253 m4 h4' _ rfl hm (hG3.eq (f4 4 (by decide))) ?_ (by rw [f4 14 (by decide)]; exact n3) M4 (hMo.mk hci) (by show mkM Ms 3 (gt Gc i) 4 = M 4; rw [mkM_ne _ _ (by decide)]; exact h4) (by show mkM Ms 3 (gt Gc i) 2 = M 2; rw [mkM_ne _ _ (by decide)]; exact h2) (by show (mkM Ms 3 (gt Gc i) 3).length + n ≤ 600; omega) (fun q hq => by have := hlo q hq; omega) (fun q hq => by have := hhi q hq; omega) (hf3.trans (f4.mono (by decide))))
            have hMk2 : Mk m4 (mkM Ms 3 (gt Gc i)) := M4
            have := hMk2.row (k := 2) (i := 0) (by omega) (by rw [mkM_ne _ _ (by decide), h2]; exact l2)
            rw [mkM_ne _ _ (by decide), h2, hu2] at this
            exact this
        have n119 : ∀ b1 : Bool, b1 = (up || decide (0 < w)) → Runs (d + 4) call sc m_X4_makeAcross Q 119 [(0, .ref 60), (1, .int (nI 3600)), (2, .int (nI z)), (3, .int (fwI lo)), (4, .int (fwI hi')), (5, .int (bI01 up)), (6, .int (bI01 dn)), (7, .int (nI i))] [.int (bI01 b1)] h3 0 0 := by
          intro b1 hb1
          refine go hc 3 (fun K hK => ?_)
          conv => whnf
          cases dn with
          | true =>
            refine ⟨fun c_ => absurd c_ (by decide), fun c_ => ?_⟩
            conv => whnf
            refine hK _ _ _ _ _ _ ?_
            refine go hc 2 (fun K hK => ?_)
            conv => whnf
            try simp only [nI_1]
            refine hK _ _ _ _ _ _ (Runs.less hc [0, 1, 2, 3, 4, 5, 6, 7] rfl rfl rfl rfl (n142 b1 true hb1 rfl))
          | false =>
            refine ⟨fun c_ => ?_, fun c_ => absurd (rfl) c_⟩
            conv => whnf
            refine hK _ _ _ _ _ _ (go hc 7 (fun K hK => ?_))
            conv => whnf
            refine ⟨_, _, hm.M, rfl, ?_⟩
            conv => whnf
            refine ⟨_, _, hm.L7, ixv (k := z) ((rfl : nI (z) = nI (z))) (by omega) (Nat.le_of_ble_eq_true rfl), ?_⟩
            rw [ixc (k := z) ((rfl : nI (z) = nI (z))) (by omega)]
            conv => whnf
            unfold mL
            rw [cz]
            by_cases zw : w < 0
            · refine ⟨fun c_ => absurd c_ (fun q => by have := (kGe0 hczi).mp q; omega), fun c_ => ?_⟩
              conv => whnf
              refine hK _ _ _ _ _ _ ?_
              refine go hc 2 (fun K hK => ?_)
              conv => whnf
              try simp only [nI_1]
              refine hK _ _ _ _ _ _ (Runs.less hc [0, 1, 2, 3, 4, 5, 6, 7] rfl rfl rfl rfl (n142 b1 true hb1 (by rw [decide_eq_true zw]; rfl)))
            · refine ⟨fun c_ => ?_, fun c_ => absurd ((kGe0 hczi).mpr (by omega)) c_⟩
              conv => whnf
              refine hK _ _ _ _ _ _ (go hc 1 (fun K hK => ?_))
              conv => whnf
              try simp only [nI_1]
              refine hK _ _ _ _ _ _ (Runs.less hc [0, 1, 2, 3, 4, 5, 6, 7] rfl rfl rfl rfl (n142 b1 false hb1 (by rw [decide_eq_false zw]; rfl)))
        refine ⟨fun c_ => ?_, fun c_ => absurd ((kEq0 hci.1).mpr z0) c_⟩
        conv => whnf
        refine hK _ _ _ _ _ _ (go hc 2 (fun K hK => ?_))
        conv => whnf
        cases up with
        | true =>
          refine ⟨fun c_ => absurd c_ ((show ¬ bI01 true = 0 by decide)), fun c_ => ?_⟩
          conv => whnf
          refine hK _ _ _ _ _ _ ?_
          refine go hc 2 (fun K hK => ?_)
          conv => whnf
          try simp only [nI_1]
          refine hK _ _ _ _ _ _ (Runs.less hc [0, 1, 2, 3, 4, 5, 6, 7] rfl rfl rfl rfl (n119 true rfl))
        | false =>
          refine ⟨fun c_ => ?_, fun c_ => absurd (rfl) c_⟩
          conv => whnf
          refine hK _ _ _ _ _ _ (go hc 7 (fun K hK => ?_))
          conv => whnf
          refine ⟨_, _, hm.M, rfl, ?_⟩
          conv => whnf
          refine ⟨_, _, hm.L7, ixv (k := z) ((rfl : nI (z) = nI (z))) (by omega) (Nat.le_of_ble_eq_true rfl), ?_⟩
          rw [ixc (k := z) ((rfl : nI (z) = nI (z))) (by omega)]
          conv => whnf
          unfold mL
          rw [cz]
          by_cases zw : 0 < w
          · refine ⟨fun c_ => absurd c_ (fun q => by have := (kLe0 hczi).mp q; omega), fun c_ => ?_⟩
            conv => whnf
            refine hK _ _ _ _ _ _ ?_
            refine go hc 2 (fun K hK => ?_)
            conv => whnf
            try simp only [nI_1]
            refine hK _ _ _ _ _ _ (Runs.less hc [0, 1, 2, 3, 4, 5, 6, 7] rfl rfl rfl rfl (n119 true (by rw [decide_eq_true zw]; rfl)))
          · refine ⟨fun c_ => ?_, fun c_ => absurd ((kLe0 hczi).mpr (by omega)) c_⟩
            conv => whnf
            refine hK _ _ _ _ _ _ (go hc 1 (fun K hK => ?_))
            conv => whnf
            try simp only [nI_1]
            refine hK _ _ _ _ _ _ (Runs.less hc [0, 1, 2, 3, 4, 5, 6, 7] rfl rfl rfl rfl (n119 false (by rw [decide_eq_false zw]; rfl)))
      · have hst : acS Gc z i (lo, hi', up, dn, Ms) = (lwA Gc z i lo, hgA Gc z i hi', up, dn, Ms) := by unfold acS; rw [if_neg z0]
        rw [hst] at n253
        have lwb : ∀ q, lwA Gc z i lo = some q → q < i + 1 := fun q hq => by
          unfold lwA at hq
          split at hq
          · injection hq with hq; omega
          · rename_i p
            have := hlo p rfl
            split at hq <;> injection hq with hq <;> omega
        have hgb : ∀ q, hgA Gc z i hi' = some q → q < i + 1 := fun q hq => by
          unfold hgA at hq
          split at hq
          · injection hq with hq; omega
          · rename_i p
            have := hhi p rfl
            split at hq <;> injection hq with hq <;> omega
        have fin := fun (h'' : PH) (hm' : MR m3 D Z h'') => n253 m3 h'' _ rfl hm' hG3 u3 n3 hM3 hMo h4 h2 (by show (Ms 3).length + n ≤ 600; omega) lwb hgb hf3
        -- the second comparison
        have n206 : ∀ l' : Option Nat, l' = lwA Gc z i lo → Runs (d + 4) call sc m_X4_makeAcross Q 206 [(0, .ref 60), (1, .int (nI 3600)), (2, .int (nI z)), (3, .int (fwI l')), (4, .int (fwI hi')), (5, .int (bI01 up)), (6, .int (bI01 dn)), (7, .int (nI i))] [] h3 0 0 := by
          intro l' hl'
          have fin' := fin h3 hm
          simp only [← hl'] at fin'
          have n249 : hgA Gc z i hi' = some i → Runs (d + 4) call sc m_X4_makeAcross Q 249 [(0, .ref 60), (1, .int (nI 3600)), (2, .int (nI z)), (3, .int (fwI l')), (4, .int (fwI hi')), (5, .int (bI01 up)), (6, .int (bI01 dn)), (7, .int (nI i))] [] h3 0 0 := fun e => by
            rw [e] at fin'
            refine go hc 2 (fun K hK => ?_)
            conv => whnf
            refine hK _ _ _ _ _ _ fin'
          cases hi' with
          | none =>
            refine go hc 2 (fun K hK => ?_)
            conv => whnf
            refine ⟨fun c_ => ?_, fun c_ => absurd ((show (-1 : Int32) < 0 by decide)) c_⟩
            conv => whnf
            refine hK _ _ _ _ _ _ (n249 rfl)
          | some q =>
            have hq := hhi q rfl
            have gqq := gq q hq
            have gq0 : m3 4 (3 * q) = (gt Gc q).1 := congrArg Prod.fst gqq
            have gqz : m3 4 (3 * q + z) = cmp3 (gt Gc q) z := by rw [vAt_cmp m3 4 (3 * q) z hz, gqq]
            have hqm : gt Gc q ∈ Gc := gt_mem (by omega)
            have i1 := hpr _ hcm _ hqm
            have i2 := hpr _ hqm _ hcm
            refine go hc 2 (fun K hK => ?_)
            conv => whnf
            refine ⟨fun c_ => absurd c_ (show ¬ nI q < 0 from fun z => nI_nlt (a := q) (b := 0) (by omega) (by omega) z), fun c_ => ?_⟩
            conv => whnf
            refine hK _ _ _ _ _ _ (go hc 26 (fun K hK => ?_))
            conv => whnf
            refine ⟨_, _, hm.M, rfl, ?_⟩
            conv => whnf
            refine ⟨_, _, hm.L7, ixv (k := z) ((rfl : nI (z) = nI (z))) (by omega) (Nat.le_of_ble_eq_true rfl), ?_⟩
            rw [ixc (k := z) ((rfl : nI (z) = nI (z))) (by omega)]
            conv => whnf
            refine ⟨_, _, hm.M, rfl, ?_⟩
            conv => whnf
            refine ⟨_, _, hm.L4, ixv (k := (3) * (q)) (im ((rfl : (3 : Int32) = nI 3)) ((rfl : fwI (some q) = nI (q)))) (by omega) (Nat.le_of_ble_eq_true rfl), ?_⟩
            rw [ixc (k := (3) * (q)) (im ((rfl : (3 : Int32) = nI 3)) ((rfl : fwI (some q) = nI (q)))) (by omega)]
            conv => whnf
            refine ⟨_, _, hm.M, rfl, ?_⟩
            conv => whnf
            refine ⟨_, _, hm.L4, ixv (k := ((3) * (q)) + (z)) (ia (im ((rfl : (3 : Int32) = nI 3)) ((rfl : fwI (some q) = nI (q)))) ((rfl : nI (z) = nI (z)))) (by omega) (Nat.le_of_ble_eq_true rfl), ?_⟩
            rw [ixc (k := ((3) * (q)) + (z)) (ia (im ((rfl : (3 : Int32) = nI 3)) ((rfl : fwI (some q) = nI (q)))) ((rfl : nI (z) = nI (z)))) (by omega)]
            conv => whnf
            refine ⟨_, _, hm.M, rfl, ?_⟩
            conv => whnf
            refine ⟨_, _, hm.L7, ixv (k := 0) ((rfl : (0 : Int32) = nI 0)) (by omega) (Nat.le_of_ble_eq_true rfl), ?_⟩
            rw [ixc (k := 0) ((rfl : (0 : Int32) = nI 0)) (by omega)]
            conv => whnf
            unfold mL
            rw [cz, gq0, gqz, c0, ← Int64.ofInt_mul, ← Int64.ofInt_mul]
            by_cases c : cmp3 (gt Gc q) z * (gt Gc i).1 < cmp3 (gt Gc i) z * (gt Gc q).1
            · refine ⟨fun c_ => absurd c_ (fun z => by have := (kLe i1 i2).mp z; omega), fun c_ => ?_⟩
              conv => whnf
              refine hK _ _ _ _ _ _ (n249 (if_pos c))
            · have e : hgA Gc z i (some q) = some q := if_neg c
              rw [e] at fin'
              refine ⟨fun c_ => ?_, fun c_ => absurd ((kLe i1 i2).mpr (by omega)) c_⟩
              conv => whnf
              refine hK _ _ _ _ _ _ fin'
        have n203 : lwA Gc z i lo = some i → Runs (d + 4) call sc m_X4_makeAcross Q 203 [(0, .ref 60), (1, .int (nI 3600)), (2, .int (nI z)), (3, .int (fwI lo)), (4, .int (fwI hi')), (5, .int (bI01 up)), (6, .int (bI01 dn)), (7, .int (nI i))] [] h3 0 0 := fun e => by
          refine go hc 2 (fun K hK => ?_)
          conv => whnf
          refine hK _ _ _ _ _ _ (n206 (some i) e.symm)
        refine ⟨fun c_ => absurd c_ (fun q => z0 ((kEq0 hci.1).mp q)), fun c_ => ?_⟩
        conv => whnf
        refine hK _ _ _ _ _ _ ?_
        cases lo with
        | none =>
          refine go hc 2 (fun K hK => ?_)
          conv => whnf
          refine ⟨fun c_ => ?_, fun c_ => absurd ((show (-1 : Int32) < 0 by decide)) c_⟩
          conv => whnf
          refine hK _ _ _ _ _ _ (n203 rfl)
        | some q =>
          have hq := hlo q rfl
          have gqq := gq q hq
          have gq0 : m3 4 (3 * q) = (gt Gc q).1 := congrArg Prod.fst gqq
          have gqz : m3 4 (3 * q + z) = cmp3 (gt Gc q) z := by rw [vAt_cmp m3 4 (3 * q) z hz, gqq]
          have hqm : gt Gc q ∈ Gc := gt_mem (by omega)
          have i1 := hpr _ hcm _ hqm
          have i2 := hpr _ hqm _ hcm
          refine go hc 2 (fun K hK => ?_)
          conv => whnf
          refine ⟨fun c_ => absurd c_ (show ¬ nI q < 0 from fun z => nI_nlt (a := q) (b := 0) (by omega) (by omega) z), fun c_ => ?_⟩
          conv => whnf
          refine hK _ _ _ _ _ _ (go hc 26 (fun K hK => ?_))
          conv => whnf
          refine ⟨_, _, hm.M, rfl, ?_⟩
          conv => whnf
          refine ⟨_, _, hm.L7, ixv (k := z) ((rfl : nI (z) = nI (z))) (by omega) (Nat.le_of_ble_eq_true rfl), ?_⟩
          rw [ixc (k := z) ((rfl : nI (z) = nI (z))) (by omega)]
          conv => whnf
          refine ⟨_, _, hm.M, rfl, ?_⟩
          conv => whnf
          refine ⟨_, _, hm.L4, ixv (k := (3) * (q)) (im ((rfl : (3 : Int32) = nI 3)) ((rfl : fwI (some q) = nI (q)))) (by omega) (Nat.le_of_ble_eq_true rfl), ?_⟩
          rw [ixc (k := (3) * (q)) (im ((rfl : (3 : Int32) = nI 3)) ((rfl : fwI (some q) = nI (q)))) (by omega)]
          conv => whnf
          refine ⟨_, _, hm.M, rfl, ?_⟩
          conv => whnf
          refine ⟨_, _, hm.L4, ixv (k := ((3) * (q)) + (z)) (ia (im ((rfl : (3 : Int32) = nI 3)) ((rfl : fwI (some q) = nI (q)))) ((rfl : nI (z) = nI (z)))) (by omega) (Nat.le_of_ble_eq_true rfl), ?_⟩
          rw [ixc (k := ((3) * (q)) + (z)) (ia (im ((rfl : (3 : Int32) = nI 3)) ((rfl : fwI (some q) = nI (q)))) ((rfl : nI (z) = nI (z)))) (by omega)]
          conv => whnf
          refine ⟨_, _, hm.M, rfl, ?_⟩
          conv => whnf
          refine ⟨_, _, hm.L7, ixv (k := 0) ((rfl : (0 : Int32) = nI 0)) (by omega) (Nat.le_of_ble_eq_true rfl), ?_⟩
          rw [ixc (k := 0) ((rfl : (0 : Int32) = nI 0)) (by omega)]
          conv => whnf
          unfold mL
          rw [cz, gq0, gqz, c0, ← Int64.ofInt_mul, ← Int64.ofInt_mul]
          by_cases c : cmp3 (gt Gc i) z * (gt Gc q).1 < cmp3 (gt Gc q) z * (gt Gc i).1
          · refine ⟨fun c_ => absurd c_ (fun z => by have := (kGe i1 i2).mp z; omega), fun c_ => ?_⟩
            conv => whnf
            refine hK _ _ _ _ _ _ (n203 (if_pos c))
          · have e : lwA Gc z i (some q) = some q := if_neg c
            refine ⟨fun c_ => ?_, fun c_ => absurd ((kGe i1 i2).mpr (by omega)) c_⟩
            conv => whnf
            refine hK _ _ _ _ _ _ (n206 (some q) e.symm)
    subst hg3
    refine ⟨fun c_ => ?_, fun c_ => absurd (by decide) c_⟩
    conv => whnf
    try simp only [nI_1]
    refine hK _ _ _ _ _ _ (Runs.less hc [0, 1, 2, 3, 4, 5, 6, 7] rfl rfl rfl rfl (n87 _ hm))
theorem e_makeAcross (hm : MR m D Z h) (hG : RW m 4 0 G) (hgn : m 14 0 = (G.length : Int)) (hgl : G.length ≤ 600) (hM : Mk m M) (hMo : Mok M) (l2 : 0 < (M 2).length) {u : V3} (hu2 : gt (M 2) 0 = u) (l3 : M 3 = []) (l4 : M 4 = []) (hgi : ∀ g ∈ G, inV g) (hcl : ∀ g ∈ G, inV (lin (cmp3 u (pvt u)) (-(cmp3 (prm g) (pvt u))) (prm g) u)) (hpr : ∀ c ∈ G.map (fun g => cleV u (prm g)), ∀ c' ∈ G.map (fun g => cleV u (prm g)), inL (cmp3 c (3 - pvt u) * c'.1))
    (hlo : (acR M u G).1 ≠ none) (hhi : (acR M u G).2.1 ≠ none)
    (hQ : ∀ m' h', MR m' D Z h' → Mk m' (acrF M u G) → Fx [4, 7, 10, 11] m m' → Q (.inl none) h') : wpC sc (d + 5) 114 [.ref 60] h Q := by
  have hui : inV u := by rw [← hu2]; exact hMo 2 (by omega) _ (gt_mem l2)
  have hrow : vAt m 11 3600 = u := by rw [← hu2]; exact hM.row (k := 2) (i := 0) (by omega) l2
  obtain ⟨hp3, hp0⟩ := pvt_lt u
  have ez : (3 : Int32) - nI (pvt u) = nI (3 - pvt u) := by
    have : pvt u = 1 ∨ pvt u = 2 := by omega
    rcases this with e | e <;> rw [e] <;> rfl
  unfold acrF at hQ
  unfold acR at hlo hhi hQ
  generalize hGc : G.map (fun g => cleV u (prm g)) = Gc at *
  have hlen : Gc.length = G.length := by rw [← hGc, List.length_map]
  refine enter rfl rfl (fun call hc => go hc 21 (fun K hK => ?_))
  conv => whnf
  refine ⟨_, hm.M, Nat.le_of_ble_eq_true rfl, ?_⟩
  conv => whnf
  refine callee hc (e_place (k := 2) (i := 0) rfl rfl ?_)
  conv => whnf
  refine ⟨_, hm.M, Nat.le_of_ble_eq_true rfl, ?_⟩
  conv => whnf
  refine callee hc (e_pivot hm (p := 3600) rfl (by omega) hrow hui ?_)
  conv => whnf
  rw [ez]
  try simp only [nI_1]
  refine hK _ _ _ _ _ _ (Runs.less hc [0, 1, 2, 3, 4, 5, 6, 7] rfl rfl rfl rfl (ax_loop (Q := qth _ Q) (M := M) (m0 := m) hc hGc.symm (show 3 - pvt u < 3 by omega) hgl hgi hui hcl hpr (R := ac2 Gc (3 - pvt u) G.length 0 (none, none, false, false, M)) ?_ G.length 0 m h (none, none, false, false, M) (by omega) hm hgn (by rw [List.take_zero, List.drop_zero]; exact hG) hrow hM hMo rfl rfl (by show (M 3).length + _ ≤ 600; rw [l3, List.length_nil]; omega) l2 hu2 (fun q hq => by cases hq) (fun q hq => by cases hq) Fx.refl rfl))
  intro m1 h1 hm r1 M1 Mo1 e4 blo bhi f1
  generalize ac2 Gc (3 - pvt u) G.length 0 (none, none, false, false, M) = R at *
  obtain ⟨lo, hi, up, dn, Ms⟩ := R
  unfold acE at hQ
  simp only at hlo hhi M1 Mo1 e4 blo bhi hQ
  obtain ⟨ql, rfl⟩ := Option.ne_none_iff_exists'.mp hlo
  obtain ⟨qh, rfl⟩ := Option.ne_none_iff_exists'.mp hhi
  have bl := blo ql rfl
  have bh := bhi qh rfl
  have hGi : ∀ c ∈ Gc, inV c := fun c hc => by
    rw [← hGc] at hc
    obtain ⟨g, hg, rfl⟩ := List.mem_map.mp hc
    exact prm_inV (hcl g hg)
  have M4l : (Ms 4).length = 0 := by rw [e4, l4]; rfl
  have n278 : ∀ m' h', MR m' D Z h' → RW m' 4 0 Gc → Mk m' (acM Gc dn (some ql) Ms) → Mok (acM Gc dn (some ql) Ms) → ((acM Gc dn (some ql) Ms) 4).length ≤ 1 → Fx [4, 7, 10, 11] m m' → Runs (d + 4) call sc m_X4_makeAcross (qth (mTh m_X4_makeAcross) Q) 278 [(0, .ref 60), (1, .int (nI 3600)), (2, .int (nI (3 - pvt u))), (3, .int (nI ql)), (4, .int (nI qh)), (5, .int (bI01 up)), (6, .int (bI01 dn))] [] h' 0 0 := by
    intro m' h' hm rr MM' Mo' l4' hf
    refine go hc 2 (fun K hK => ?_)
    conv => whnf
    generalize acM Gc dn (some ql) Ms = Mx at *
    cases up with
    | true =>
      refine ⟨fun c_ => absurd c_ (by decide), fun c_ => ?_⟩
      conv => whnf
      refine hK _ _ _ _ _ _ (go hc 1 (fun K hK => ?_))
      conv => whnf
      exact hQ m' h' hm MM' hf
    | false =>
      refine ⟨fun c_ => ?_, fun c_ => absurd (rfl) c_⟩
      conv => whnf
      refine hK _ _ _ _ _ _ (go hc 9 (fun K hK => ?_))
      conv => whnf
      refine ⟨_, _, hm.M, rfl, ?_⟩
      conv => whnf
      refine ⟨_, hm.M, Nat.le_of_ble_eq_true rfl, ?_⟩
      conv => whnf
      refine callee hc (e_load hm (a := 4) (by decide) rfl (show 3 * qh + 2 < 1800 by omega) (rr.v0 bh) (hGi _ (gt_mem bh)) ?_)
      intro m2 h2 hm v2 f2
      conv => whnf
      refine ⟨_, hm.M, Nat.le_of_ble_eq_true rfl, ?_⟩
      conv => whnf
      refine callee hc (e_make hm (k := 4) rfl (by omega) (MM'.fx f2 (by decide) (by decide)) (by omega) (Mo' 4 (by omega)) (by rw [v2]; exact prm_inV (hGi _ (gt_mem bh))) ?_)
      intro m3 h3 hm M3 v3 f3
      rw [v2] at M3
      conv => whnf
      exact hQ m3 h3 hm M3 ((hf.trans (f2.mono (by decide))).trans (f3.mono (by decide)))
  refine go hc 2 (fun K hK => ?_)
  conv => whnf
  cases dn with
  | true =>
    refine ⟨fun c_ => absurd c_ ((show ¬ bI01 true = 0 by decide)), fun c_ => ?_⟩
    conv => whnf
    refine hK _ _ _ _ _ _ (n278 m1 h1 hm r1 M1 Mo1 (by show (Ms 4).length ≤ 1; omega) f1)
  | false =>
    have q4 := mkM_len Ms 4 4 (prm (gt Gc ql))
    refine ⟨fun c_ => ?_, fun c_ => absurd (rfl) c_⟩
    conv => whnf
    refine hK _ _ _ _ _ _ (go hc 8 (fun K hK => ?_))
    conv => whnf
    refine ⟨_, _, hm.M, rfl, ?_⟩
    conv => whnf
    refine ⟨_, hm.M, Nat.le_of_ble_eq_true rfl, ?_⟩
    conv => whnf
    refine callee hc (e_load hm (a := 4) (by decide) rfl (show 3 * ql + 2 < 1800 by omega) (r1.v0 bl) (hGi _ (gt_mem bl)) ?_)
    intro m2 h2 hm v2 f2
    conv => whnf
    refine ⟨_, hm.M, Nat.le_of_ble_eq_true rfl, ?_⟩
    conv => whnf
    refine callee hc (e_make hm (k := 4) rfl (by omega) (M1.fx f2 (by decide) (by decide)) (by omega) (Mo1 4 (by omega)) (by rw [v2]; exact prm_inV (hGi _ (gt_mem bl))) ?_)
    intro m3 h3 hm M3 v3 f3
    rw [v2] at M3
    conv => whnf
    refine hK _ _ _ _ _ _ (n278 m3 h3 hm ((r1.eq (f2 4 (by decide))).eq (f3 4 (by decide))) M3 (Mo1.mk (prm_inV (hGi _ (gt_mem bl)))) (by show (mkM Ms 4 (prm (gt Gc ql)) 4).length ≤ 1; omega) ((f1.trans (f2.mono (by decide))).trans (f3.mono (by decide))))
end EACROSS
