/-! what cuts out, what is an end -/
def hpB (G : List V3) : Bool := G.any fun g => decide (0 < g.1)
def cu2 (G : List V3) (k : V3) : Nat → Nat → Option Nat → Bool → Bool → Bool × Bool
  | 0, _, _, t, p => (t, p)
  | n + 1, j, f, t, p => if dot k (gt G j) = 0 then (match f with
      | none => cu2 G k n (j + 1) (some j) t (p || decide (0 < (gt G j).1))
      | some q => cu2 G k n (j + 1) (some q) (t || decide (xp (gt G q) (gt G j) ≠ (0, 0, 0))) (p || decide (0 < (gt G j).1))) else cu2 G k n (j + 1) f t p
def cutB (G : List V3) (k : V3) (dm : Nat) : Bool := (cu2 G k G.length 0 none false false).2 && (decide (dm = 1) || (cu2 G k G.length 0 none false false).1)
section ECUTS
variable {sc : Scr} {d : Nat} {m : MM} {D Z h : PH} {Q : Out → PH → Prop} {C G : List V3}
theorem hp_loop {call : Callee} (hc : call = wpC sc d) (hm : MR m D Z h) (hG : RW m 4 0 G) (F5 : mF m 14 = nI G.length) (hgl : G.length ≤ 600) (hin : ∀ g ∈ G, inL g.1) :
    ∀ (n i : Nat) (p : Bool), i + n = G.length → Q (.inl (some (.int (bI01 (p || hpB (G.drop i)))))) h → Runs d call sc m_X4_hasPoint Q 4 [(0, .ref 60), (1, .int (bI01 p)), (2, .int (nI i))] [] h 0 0 := by
  intro n
  induction n with
  | zero =>
    intro i p hi hQ
    rw [List.drop_eq_nil_of_le (by omega), show hpB [] = false from rfl, Bool.or_false] at hQ
    refine go hc 4 (fun K hK => ?_)
    conv => whnf
    refine ⟨_, _, hm.M, rfl, ?_⟩
    rw [F5]
    conv => whnf
    refine ⟨fun c_ => ?_, fun c_ => absurd (nI_le (by omega) (by omega)) c_⟩
    conv => whnf
    refine hK _ _ _ _ _ _ (go hc 2 (fun K hK => ?_))
    conv => whnf
    exact ⟨by cases p <;> simp [bI01], hQ⟩
  | succ n ih =>
    intro i p hi hQ
    have hil : i < G.length := by omega
    have e0 : m 4 (3 * i) = (gt G i).1 := congrArg Prod.fst (hG.v0 hil)
    have hg := hin _ (gt_mem hil)
    rw [drop_gt hil] at hQ
    unfold hpB at hQ
    rw [List.any_cons, ← Bool.or_assoc] at hQ
    have n34 : ∀ b : Bool, (b = (p || decide (0 < (gt G i).1))) → Runs d call sc m_X4_hasPoint Q 34 [(0, .ref 60), (1, .int (bI01 p)), (2, .int (nI i))] [.int (bI01 b)] h 0 0 := fun b hb => by
      rw [← hb] at hQ
      refine go hc 3 (fun K hK => ?_)
      conv => whnf
      try simp only [nI_1]
      refine hK _ _ _ _ _ _ (Runs.less hc [0, 1, 2] rfl rfl rfl rfl (ih (i + 1) b (by omega) hQ))
    refine go hc 4 (fun K hK => ?_)
    conv => whnf
    refine ⟨_, _, hm.M, rfl, ?_⟩
    rw [F5]
    conv => whnf
    refine ⟨fun c_ => absurd c_ (nI_ge hil (by omega)), fun c_ => ?_⟩
    conv => whnf
    refine hK _ _ _ _ _ _ (go hc 2 (fun K hK => ?_))
    conv => whnf
    cases p with
    | true =>
      refine ⟨fun c_ => absurd c_ (by decide), fun c_ => ?_⟩
      conv => whnf
      refine hK _ _ _ _ _ _ ?_
      refine go hc 2 (fun K hK => ?_)
      conv => whnf
      try simp only [nI_1]
      refine hK _ _ _ _ _ _ (Runs.less hc [0, 1, 2] rfl rfl rfl rfl (n34 true rfl))
    | false =>
      refine ⟨fun c_ => ?_, fun c_ => absurd (rfl) c_⟩
      conv => whnf
      refine hK _ _ _ _ _ _ (go hc 9 (fun K hK => ?_))
      conv => whnf
      refine ⟨_, _, hm.M, rfl, ?_⟩
      conv => whnf
      refine ⟨_, _, hm.L4, ixv (k := (3) * (i)) (im ((rfl : (3 : Int32) = nI 3)) ((rfl : nI (i) = nI (i)))) (by omega) (Nat.le_of_ble_eq_true rfl), ?_⟩
      rw [ixc (k := (3) * (i)) (im ((rfl : (3 : Int32) = nI 3)) ((rfl : nI (i) = nI (i)))) (by omega)]
      conv => whnf
      by_cases c : 0 < (gt G i).1
      · refine ⟨fun c_ => absurd c_ (by unfold mL; rw [e0]; exact fun q => by have := (kLe0 hg).mp q; omega), fun c_ => ?_⟩
        conv => whnf
        refine hK _ _ _ _ _ _ ?_
        refine go hc 2 (fun K hK => ?_)
        conv => whnf
        try simp only [nI_1]
        refine hK _ _ _ _ _ _ (Runs.less hc [0, 1, 2] rfl rfl rfl rfl (n34 true (by rw [decide_eq_true c]; rfl)))
      · refine ⟨fun c_ => ?_, fun c_ => absurd (by unfold mL; rw [e0]; exact (kLe0 hg).mpr (by omega)) c_⟩
        conv => whnf
        refine hK _ _ _ _ _ _ (go hc 1 (fun K hK => ?_))
        conv => whnf
        try simp only [nI_1]
        refine hK _ _ _ _ _ _ (Runs.less hc [0, 1, 2] rfl rfl rfl rfl (n34 false (by rw [decide_eq_false c]; rfl)))
theorem e_hasPoint (hm : MR m D Z h) (hG : RW m 4 0 G) (hgn : m 14 0 = (G.length : Int)) (hgl : G.length ≤ 600) (hin : ∀ g ∈ G, inL g.1) (hQ : Q (.inl (some (.int (bI01 (hpB G))))) h) : wpC sc (d + 1) 121 [.ref 60] h Q := by
  refine enter rfl rfl (fun call hc => go hc 4 (fun K hK => ?_))
  conv => whnf
  try simp only [nI_1]
  refine hK _ _ _ _ _ _ (Runs.less hc [0, 1, 2] rfl rfl rfl rfl (hp_loop (Q := qth _ Q) hc hm hG (mF_of hgn) hgl hin G.length 0 false (by omega) hQ))
theorem cu_loop {call : Callee} (hc : call = wpC sc (d + 3)) {m0 : MM} (h0 : KG m0 C G) {i : Nat} (hi : i < C.length) (hd : ∀ g ∈ G, inL (dot (gt C i) g)) (hx : ∀ g ∈ G, ∀ g' ∈ G, inV (xp g g')) (hin : ∀ g ∈ G, inL g.1) {dm : Int32} {R : Bool × Bool}
    (hQ : ∀ m' h', MR m' D Z h' → Fx [7] m0 m' → Runs (d + 3) call sc m_X4_cutsOut Q 109 [(0, .ref 60), (1, .int (nI i)), (2, .int dm), (4, .int (bI01 R.1)), (5, .int (bI01 R.2))] [] h' 0 0) :
    ∀ (n j : Nat) (m : MM) (h : PH) (f : Option Nat) (t p : Bool), j + n = G.length → MR m D Z h → Fx [7] m0 m → (∀ q, f = some q → q < j) → cu2 G (gt C i) n j f t p = R →
    Runs (d + 3) call sc m_X4_cutsOut Q 11 [(0, .ref 60), (1, .int (nI i)), (2, .int dm), (3, .int (fwI f)), (4, .int (bI01 t)), (5, .int (bI01 p)), (6, .int (nI j))] [] h 0 0 := by
  have hcl := h0.2.2.1
  have hgl := h0.2.2.2.2.2
  intro n
  induction n with
  | zero =>
    intro j m h f t p hj hm hf hff hR
    have hR : (t, p) = R := hR
    subst hR
    have F5 := (h0.fx hf (by decide) (by decide) (by decide) (by decide)).F5
    refine go hc 4 (fun K hK => ?_)
    conv => whnf
    refine ⟨_, _, hm.M, rfl, ?_⟩
    rw [F5]
    conv => whnf
    refine ⟨fun c_ => ?_, fun c_ => absurd (nI_le (by omega) (by omega)) c_⟩
    conv => whnf
    try simp only [nI_1]
    refine hK _ _ _ _ _ _ (Runs.less hc [0, 1, 2, 4, 5] rfl rfl rfl rfl (hQ m h hm hf))
  | succ n ih =>
    intro j m h f t p hj hm hf hff hR
    have hjl : j < G.length := by omega
    have hkg := h0.fx hf (by decide) (by decide) (by decide) (by decide)
    have F5 := hkg.F5
    have hdg := hd _ (gt_mem hjl)
    have hg0 := hin _ (gt_mem hjl)
    have e0 : m 4 (3 * j) = (gt G j).1 := congrArg Prod.fst (hkg.g hjl)
    unfold cu2 at hR
    have n103 : ∀ (m' : MM) (h' : PH) (f' : Option Nat) (t' p' : Bool), MR m' D Z h' → Fx [7] m0 m' → (∀ q, f' = some q → q < j + 1) → cu2 G (gt C i) n (j + 1) f' t' p' = R →
        Runs (d + 3) call sc m_X4_cutsOut Q 103 [(0, .ref 60), (1, .int (nI i)), (2, .int dm), (3, .int (fwI f')), (4, .int (bI01 t')), (5, .int (bI01 p')), (6, .int (nI j))] [] h' 0 0 := by
      intro m' h' f' t' p' hm' hf' hff' hR'
      refine go hc 2 (fun K hK => ?_)
      conv => whnf
      try simp only [nI_1]
      refine hK _ _ _ _ _ _ (Runs.less hc [0, 1, 2, 3, 4, 5, 6] rfl rfl rfl rfl (ih (j + 1) m' h' f' t' p' (by omega) hm' hf' hff' hR'))
    refine go hc 4 (fun K hK => ?_)
    conv => whnf
    refine ⟨_, _, hm.M, rfl, ?_⟩
    rw [F5]
    conv => whnf
    refine ⟨fun c_ => absurd c_ (nI_ge hjl (by omega)), fun c_ => ?_⟩
    conv => whnf
    refine hK _ _ _ _ _ _ (go hc 5 (fun K hK => ?_))
    conv => whnf
    refine ⟨_, hm.M, Nat.le_of_ble_eq_true rfl, ?_⟩
    conv => whnf
    refine callee hc (e_isTight hm rfl rfl (by omega) (by omega) (hkg.k hi) (hkg.g hjl) hdg ?_)
    conv => whnf
    by_cases c : dot (gt C i) (gt G j) = 0
    · rw [if_pos c] at hR
      rw [decide_eq_true c]
      have n57 : ∀ b : Bool, b = (p || decide (0 < (gt G j).1)) → Runs (d + 3) call sc m_X4_cutsOut Q 57 [(0, .ref 60), (1, .int (nI i)), (2, .int dm), (3, .int (fwI f)), (4, .int (bI01 t)), (5, .int (bI01 p)), (6, .int (nI j))] [.int (bI01 b)] h 0 0 := by
        intro b hb
        rw [← hb] at hR
        refine go hc 3 (fun K hK => ?_)
        conv => whnf
        cases f with
        | none =>
          have hR : cu2 G (gt C i) n (j + 1) (some j) t b = R := hR
          refine ⟨fun c_ => absurd c_ (by decide), fun c_ => ?_⟩
          conv => whnf
          refine hK _ _ _ _ _ _ (go hc 3 (fun K hK => ?_))
          conv => whnf
          try simp only [nI_1]
          refine hK _ _ _ _ _ _ (Runs.less hc [0, 1, 2, 3, 4, 5, 6] rfl rfl rfl rfl (n103 m h (some j) t b hm hf (fun q hq => by injection hq with hq; omega) hR))
        | some q =>
          have hq := hff q rfl
          have hR : cu2 G (gt C i) n (j + 1) (some q) (t || decide (xp (gt G q) (gt G j) ≠ (0, 0, 0))) b = R := hR
          have n101 : ∀ (m' : MM) (h' : PH) (t' : Bool), MR m' D Z h' → Fx [7] m0 m' → t' = (t || decide (xp (gt G q) (gt G j) ≠ (0, 0, 0))) → Runs (d + 3) call sc m_X4_cutsOut Q 101 [(0, .ref 60), (1, .int (nI i)), (2, .int dm), (3, .int (fwI (some q))), (4, .int (bI01 t)), (5, .int (bI01 b)), (6, .int (nI j))] [.int (bI01 t')] h' 0 0 := by
            intro m' h' t' hm' hf' ht'
            rw [← ht'] at hR
            refine go hc 1 (fun K hK => ?_)
            conv => whnf
            try simp only [nI_1]
            refine hK _ _ _ _ _ _ (Runs.less hc [0, 1, 2, 3, 4, 5, 6] rfl rfl rfl rfl (n103 m' h' (some q) t' b hm' hf' (fun q' hq' => by injection hq' with hq'; omega) hR))
          refine ⟨fun c_ => ?_, fun c_ => absurd (show nI 0 ≤ nI q from nI_le (by omega) (by omega)) c_⟩
          conv => whnf
          refine hK _ _ _ _ _ _ (go hc 2 (fun K hK => ?_))
          conv => whnf
          cases t with
          | true =>
            refine ⟨fun c_ => absurd c_ (by decide), fun c_ => ?_⟩
            conv => whnf
            refine hK _ _ _ _ _ _ ?_
            refine go hc 2 (fun K hK => ?_)
            conv => whnf
            try simp only [nI_1]
            refine hK _ _ _ _ _ _ (Runs.less hc [0, 1, 2, 3, 4, 5, 6] rfl rfl rfl rfl (n101 m h true hm hf rfl))
          | false =>
            have eq1 := hkg.g (show q < G.length by omega)
            have ej := hkg.g hjl
            refine ⟨fun c_ => ?_, fun c_ => absurd (rfl) c_⟩
            conv => whnf
            refine hK _ _ _ _ _ _ (go hc 13 (fun K hK => ?_))
            conv => whnf
            refine ⟨_, _, hm.M, rfl, ?_⟩
            conv => whnf
            refine ⟨_, _, hm.M, rfl, ?_⟩
            conv => whnf
            refine ⟨_, hm.M, Nat.le_of_ble_eq_true rfl, ?_⟩
            conv => whnf
            refine callee hc (e_cross hm (a := 4) (b := 4) (i := 3 * q) (j := 3 * j) (by decide) (by decide) (by decide) (by decide) (im rfl rfl) (im rfl rfl) (show 3 * q + 2 < 1800 by omega) (show 3 * j + 2 < 1800 by omega) (by rw [eq1, ej]; exact hx _ (gt_mem (by omega)) _ (gt_mem hjl)) ?_)
            intro m2 h2 hm v2 f2
            rw [eq1, ej]
            conv => whnf
            have hf2 := hf.trans f2
            by_cases c2 : xp (gt G q) (gt G j) = (0, 0, 0)
            · rw [decide_eq_false (fun z => z c2)]
              refine ⟨fun c_ => ?_, fun c_ => absurd (rfl) c_⟩
              conv => whnf
              refine hK _ _ _ _ _ _ (go hc 1 (fun K hK => ?_))
              conv => whnf
              try simp only [nI_1]
              refine hK _ _ _ _ _ _ (Runs.less hc [0, 1, 2, 3, 4, 5, 6] rfl rfl rfl rfl (n101 m2 h2 false hm hf2 (by rw [decide_eq_false (fun z => z c2)]; rfl)))
            · rw [decide_eq_true c2]
              refine ⟨fun c_ => absurd c_ (by decide), fun c_ => ?_⟩
              conv => whnf
              refine hK _ _ _ _ _ _ ?_
              refine go hc 2 (fun K hK => ?_)
              conv => whnf
              try simp only [nI_1]
              refine hK _ _ _ _ _ _ (Runs.less hc [0, 1, 2, 3, 4, 5, 6] rfl rfl rfl rfl (n101 m2 h2 true hm hf2 (by rw [decide_eq_true c2]; rfl)))
      refine ⟨fun c_ => absurd c_ (by decide), fun c_ => ?_⟩
      conv => whnf
      refine hK _ _ _ _ _ _ (go hc 2 (fun K hK => ?_))
      conv => whnf
      cases p with
      | true =>
        refine ⟨fun c_ => absurd c_ (by decide), fun c_ => ?_⟩
        conv => whnf
        refine hK _ _ _ _ _ _ ?_
        refine go hc 2 (fun K hK => ?_)
        conv => whnf
        try simp only [nI_1]
        refine hK _ _ _ _ _ _ (Runs.less hc [0, 1, 2, 3, 4, 5, 6] rfl rfl rfl rfl (n57 true rfl))
      | false =>
        refine ⟨fun c_ => ?_, fun c_ => absurd (rfl) c_⟩
        conv => whnf
        refine hK _ _ _ _ _ _ (go hc 9 (fun K hK => ?_))
        conv => whnf
        refine ⟨_, _, hm.M, rfl, ?_⟩
        conv => whnf
        refine ⟨_, _, hm.L4, ixv (k := (3) * (j)) (im ((rfl : (3 : Int32) = nI 3)) ((rfl : nI (j) = nI (j)))) (by omega) (Nat.le_of_ble_eq_true rfl), ?_⟩
        rw [ixc (k := (3) * (j)) (im ((rfl : (3 : Int32) = nI 3)) ((rfl : nI (j) = nI (j)))) (by omega)]
        conv => whnf
        by_cases c3 : 0 < (gt G j).1
        · refine ⟨fun c_ => absurd c_ (by unfold mL; rw [e0]; exact fun q => by have := (kLe0 hg0).mp q; omega), fun c_ => ?_⟩
          conv => whnf
          refine hK _ _ _ _ _ _ ?_
          refine go hc 2 (fun K hK => ?_)
          conv => whnf
          try simp only [nI_1]
          refine hK _ _ _ _ _ _ (Runs.less hc [0, 1, 2, 3, 4, 5, 6] rfl rfl rfl rfl (n57 true (by rw [decide_eq_true c3]; rfl)))
        · refine ⟨fun c_ => ?_, fun c_ => absurd (by unfold mL; rw [e0]; exact (kLe0 hg0).mpr (by omega)) c_⟩
          conv => whnf
          refine hK _ _ _ _ _ _ (go hc 1 (fun K hK => ?_))
          conv => whnf
          try simp only [nI_1]
          refine hK _ _ _ _ _ _ (Runs.less hc [0, 1, 2, 3, 4, 5, 6] rfl rfl rfl rfl (n57 false (by rw [decide_eq_false c3]; rfl)))
    · rw [if_neg c] at hR
      rw [decide_eq_false c]
      refine ⟨fun c_ => ?_, fun c_ => absurd (rfl) c_⟩
      conv => whnf
      refine hK _ _ _ _ _ _ (go hc 1 (fun K hK => ?_))
      conv => whnf
      try simp only [nI_1]
      refine hK _ _ _ _ _ _ (Runs.less hc [0, 1, 2, 3, 4, 5, 6] rfl rfl rfl rfl (n103 m h f t p hm hf (fun q hq => by have := hff q hq; omega) hR))
theorem e_cutsOut (hm : MR m D Z h) (h0 : KG m C G) {i dm : Nat} {X Y : Int32} (hX : X = nI i) (hY : Y = nI dm) (hdm : dm < 3) (hi : i < C.length) (hd : ∀ g ∈ G, inL (dot (gt C i) g)) (hx : ∀ g ∈ G, ∀ g' ∈ G, inV (xp g g')) (hin : ∀ g ∈ G, inL g.1)
    (hQ : ∀ m' h', MR m' D Z h' → Fx [7] m m' → Q (.inl (some (.int (bI01 (cutB G (gt C i) dm))))) h') : wpC sc (d + 4) 111 [.ref 60, .int X, .int Y] h Q := by
  subst hX
  unfold cutB at hQ
  refine enter rfl rfl (fun call hc => go hc 8 (fun K hK => ?_))
  conv => whnf
  try simp only [nI_1]
  refine hK _ _ _ _ _ _ (Runs.less hc [0, 1, 2, 3, 4, 5, 6] rfl rfl rfl rfl (cu_loop (Q := qth _ Q) hc h0 hi hd hx hin (dm := Y) (R := cu2 G (gt C i) G.length 0 none false false) ?_ G.length 0 m h none false false (by omega) hm Fx.refl (fun q hq => by cases hq) rfl))
  intro m1 h1 hm1 f1
  have hend := hQ m1 h1 hm1 f1
  generalize cu2 G (gt C i) G.length 0 none false false = R at *
  obtain ⟨t, p⟩ := R
  have y124 : ∀ (tt pp : Bool), Q (.inl (some (.int 1))) h1 → Runs (d + 3) call sc m_X4_cutsOut (qth (mTh m_X4_cutsOut) Q) 124 [(0, .ref 60), (1, .int (nI i)), (2, .int Y), (4, .int (bI01 tt)), (5, .int (bI01 pp))] [] h1 0 0 := fun tt pp q => by
    refine go hc 2 (fun K hK => ?_)
    conv => whnf
    refine hK _ _ _ _ _ _ ?_
    refine go hc 1 (fun K hK => ?_)
    conv => whnf
    exact ⟨Or.inr rfl, q⟩
  have y128 : ∀ (tt pp : Bool), Q (.inl (some (.int 0))) h1 → Runs (d + 3) call sc m_X4_cutsOut (qth (mTh m_X4_cutsOut) Q) 128 [(0, .ref 60), (1, .int (nI i)), (2, .int Y), (4, .int (bI01 tt)), (5, .int (bI01 pp))] [] h1 0 0 := fun tt pp q => by
    refine go hc 1 (fun K hK => ?_)
    conv => whnf
    refine hK _ _ _ _ _ _ ?_
    refine go hc 1 (fun K hK => ?_)
    conv => whnf
    exact ⟨Or.inl rfl, q⟩
  refine go hc 2 (fun K hK => ?_)
  conv => whnf
  cases p with
  | false =>
    refine ⟨fun c_ => ?_, fun c_ => absurd (rfl) c_⟩
    conv => whnf
    refine hK _ _ _ _ _ _ (y128 t false hend)
  | true =>
    refine ⟨fun c_ => absurd c_ ((show ¬ bI01 true = 0 by decide)), fun c_ => ?_⟩
    conv => whnf
    refine hK _ _ _ _ _ _ (go hc 3 (fun K hK => ?_))
    conv => whnf
    by_cases c : dm = 1
    · subst c
      subst hY
      refine ⟨fun c_ => ?_, fun c_ => absurd (rfl) c_⟩
      conv => whnf
      refine hK _ _ _ _ _ _ (y124 t true hend)
    · rw [decide_eq_false c] at hend
      refine ⟨fun c_ => absurd c_ (fun q => c (by rw [hY] at q; exact (nI_eq (by omega) (by decide)).mp q)), fun c_ => ?_⟩
      conv => whnf
      refine hK _ _ _ _ _ _ (go hc 2 (fun K hK => ?_))
      conv => whnf
      cases t with
      | false =>
        refine ⟨fun c_ => ?_, fun c_ => absurd (rfl) c_⟩
        conv => whnf
        refine hK _ _ _ _ _ _ (y128 false true hend)
      | true =>
        refine ⟨fun c_ => absurd c_ (by decide), fun c_ => ?_⟩
        conv => whnf
        refine hK _ _ _ _ _ _ (y124 true true hend)
end ECUTS
