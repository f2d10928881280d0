/-! ends; inequalities; the point -/
def flg (C G : List V3) (j : Nat) : Bool := if j < C.length then flatB G (gt C j) else false
def ie2 (C' : List V3) (fg : Nat → Bool) (v : V3) (dm : Nat) : Nat → Nat → Option Nat → Bool → Bool
  | 0, _, _, e => e
  | n + 1, j, f, e => if fg j = true ∨ dot (gt C' j) v ≠ 0 then ie2 C' fg v dm n (j + 1) f e else if dm = 1 then ie2 C' fg v dm n (j + 1) f true else (match f with
      | none => ie2 C' fg v dm n (j + 1) (some j) e
      | some q => ie2 C' fg v dm n (j + 1) (some q) (e || decide (xp (gt C' q) (gt C' j) ≠ (0, 0, 0))))
def endB (C G : List V3) (v : V3) (dm : Nat) : Bool := ie2 (C ++ [(1, 0, 0)]) (flg C G) v dm (C.length + 1) 0 none false
def mkM (M : Nat → List V3) (k : Nat) (c : V3) : Nat → List V3 := va_up M k (kp (M k) (prm c))
def Mok (M : Nat → List V3) : Prop := ∀ k, k < 5 → ∀ f ∈ M k, inV f
theorem Mok.mk {M : Nat → List V3} {k : Nat} {c : V3} (h : Mok M) (hc : inV c) : Mok (mkM M k c) := fun j hj f hf => by
  unfold mkM at hf
  by_cases e : j = k
  · rw [e, va_up_self] at hf
    rcases kp_mem hf with q | q
    · exact h k (by omega) f q
    · rw [q]; exact prm_inV hc
  · rw [va_up_ne _ _ e] at hf
    exact h j hj f hf
theorem mkM_len (M : Nat → List V3) (k j : Nat) (c : V3) : (mkM M k c j).length ≤ (M j).length + 1 := by
  unfold mkM
  by_cases e : j = k
  · rw [e, va_up_self]; exact (kp_len _ _).2
  · rw [va_up_ne _ _ e]; omega
section EENDS
variable {sc : Scr} {d : Nat} {m : MM} {D Z h : PH} {Q : Out → PH → Prop} {C G : List V3} {M : Nat → List V3}
theorem ie_loop {call : Callee} (hc : call = wpC sc (d + 3)) {m0 : MM} (h0 : KG m0 C G) (hC' : RW m0 5 0 (C ++ [(1, 0, 0)])) (h9 : ∀ j, j ≤ C.length → m0 9 j = b2i (flg C G j)) {i dm : Nat} (hdm : dm < 3) (hi : i < G.length) (hd : ∀ k ∈ C ++ [((1, 0, 0) : V3)], inL (dot k (gt G i))) (hx : dm ≠ 1 → ∀ k ∈ C ++ [((1, 0, 0) : V3)], ∀ k' ∈ C ++ [((1, 0, 0) : V3)], inV (xp k k')) {R : Bool} {Y : Int32} (hY : Y = nI dm)
    (hQ : ∀ m' h', MR m' D Z h' → Fx [7] m0 m' → Q (.inl (some (.int (bI01 R)))) h') :
    ∀ (n j : Nat) (m : MM) (h : PH) (f : Option Nat) (e : Bool), j + n = C.length + 1 → MR m D Z h → Fx [7] m0 m → (∀ q, f = some q → q < j) → ie2 (C ++ [(1, 0, 0)]) (flg C G) (gt G i) dm n j f e = R →
    Runs (d + 3) call sc m_X4_isEnd Q 58 [(0, .ref 60), (1, .int (nI i)), (2, .int Y), (3, .int (fwI f)), (4, .int (bI01 e)), (5, .int (nI j))] [] h 0 0 := by
  have hcl := h0.2.2.1
  have hgl := h0.2.2.2.2.2
  have hlen : (C ++ [((1, 0, 0) : V3)]).length = C.length + 1 := by rw [List.length_append]; rfl
  intro n
  induction n with
  | zero =>
    intro j m h f e hj hm hf hff hR
    have hR : e = R := hR
    subst hR
    have F6 := (h0.fx hf (by decide) (by decide) (by decide) (by decide)).F6
    refine go hc 4 (fun K hK => ?_)
    conv => whnf
    refine ⟨_, _, hm.M, rfl, ?_⟩
    rw [F6]
    conv => whnf
    refine ⟨fun c_ => ?_, fun c_ => absurd (nI_lt (by omega) (by omega)) c_⟩
    conv => whnf
    refine hK _ _ _ _ _ _ (go hc 2 (fun K hK => ?_))
    conv => whnf
    exact ⟨by cases e <;> simp [bI01], hQ m h hm hf⟩
  | succ n ih =>
    intro j m h f e hj hm hf hff hR
    have hjl : j < C.length + 1 := by omega
    have hkg := h0.fx hf (by decide) (by decide) (by decide) (by decide)
    have F6 := hkg.F6
    have hCm : RW m 5 0 (C ++ [(1, 0, 0)]) := hC'.eq (hf 5 (by decide))
    have ej := hCm.v0 (show j < (C ++ [((1, 0, 0) : V3)]).length by omega)
    have hdj := hd _ (gt_mem (show j < (C ++ [((1, 0, 0) : V3)]).length by omega))
    have e9 : mI m 9 j = bI01 (flg C G j) := by
      unfold mI
      rw [hf 9 (by decide), h9 j (by omega)]
      cases flg C G j <;> rfl
    unfold ie2 at hR
    have n145 : ∀ (m' : MM) (h' : PH) (f' : Option Nat) (e' : Bool), MR m' D Z h' → Fx [7] m0 m' → (∀ q, f' = some q → q < j + 1) → ie2 (C ++ [(1, 0, 0)]) (flg C G) (gt G i) dm n (j + 1) f' e' = R →
        Runs (d + 3) call sc m_X4_isEnd Q 145 [(0, .ref 60), (1, .int (nI i)), (2, .int Y), (3, .int (fwI f')), (4, .int (bI01 e')), (5, .int (nI j))] [] h' 0 0 := by
      intro m' h' f' e' hm' hf' hff' hR'
      refine go hc 2 (fun K hK => ?_)
      conv => whnf
      try simp only [nI_1]
      refine hK _ _ _ _ _ _ (Runs.less hc [0, 1, 2, 3, 4, 5] rfl rfl rfl rfl (ih (j + 1) m' h' f' e' (by omega) hm' hf' hff' hR'))
    refine go hc 4 (fun K hK => ?_)
    conv => whnf
    refine ⟨_, _, hm.M, rfl, ?_⟩
    rw [F6]
    conv => whnf
    refine ⟨fun c_ => absurd c_ (nI_nlt (by omega) (by omega)), fun c_ => ?_⟩
    conv => whnf
    refine hK _ _ _ _ _ _ (go hc 5 (fun K hK => ?_))
    conv => whnf
    refine ⟨_, _, hm.M, rfl, ?_⟩
    conv => whnf
    refine ⟨_, _, hm.B9, ixv (k := j) ((rfl : nI (j) = nI (j))) (by omega) (Nat.le_of_ble_eq_true rfl), ?_⟩
    rw [ixc (k := j) ((rfl : nI (j) = nI (j))) (by omega)]
    conv => whnf
    rw [e9]
    cases hfl : flg C G j with
    | true =>
      rw [if_pos (Or.inl hfl)] at hR
      refine ⟨fun c_ => absurd c_ (by decide), fun c_ => ?_⟩
      conv => whnf
      try simp only [nI_1]
      refine hK _ _ _ _ _ _ (Runs.less hc [0, 1, 2, 3, 4, 5] rfl rfl rfl rfl (n145 m h f e hm hf (fun q hq => by have := hff q hq; omega) hR))
    | false =>
      refine ⟨fun c_ => ?_, fun c_ => absurd (rfl) c_⟩
      conv => whnf
      refine hK _ _ _ _ _ _ (go hc 5 (fun K hK => ?_))
      conv => whnf
      refine ⟨_, hm.M, Nat.le_of_ble_eq_true rfl, ?_⟩
      conv => whnf
      refine callee hc (e_isTight hm rfl rfl (by omega) (by omega) ej (hkg.g hi) hdj ?_)
      conv => whnf
      by_cases c : dot (gt (C ++ [((1, 0, 0) : V3)]) j) (gt G i) = 0
      · rw [if_neg (fun z => z.elim (fun z => by rw [hfl] at z; cases z) (fun z => z c))] at hR
        rw [decide_eq_true c]
        refine ⟨fun c_ => absurd c_ (by decide), fun c_ => ?_⟩
        conv => whnf
        refine hK _ _ _ _ _ _ (go hc 3 (fun K hK => ?_))
        conv => whnf
        by_cases c1 : dm = 1
        · rw [if_pos c1] at hR
          refine ⟨fun c_ => ?_, fun c_ => absurd (by rw [hY, c1]; rfl) c_⟩
          conv => whnf
          refine hK _ _ _ _ _ _ (go hc 3 (fun K hK => ?_))
          conv => whnf
          try simp only [nI_1]
          refine hK _ _ _ _ _ _ (Runs.less hc [0, 1, 2, 3, 4, 5] rfl rfl rfl rfl (n145 m h f true hm hf (fun q hq => by have := hff q hq; omega) hR))
        · rw [if_neg c1] at hR
          refine ⟨fun c_ => absurd c_ (fun q => c1 (by rw [hY] at q; exact (nI_eq (by omega) (by decide)).mp q)), fun c_ => ?_⟩
          conv => whnf
          refine hK _ _ _ _ _ _ (go hc 2 (fun K hK => ?_))
          conv => whnf
          cases f with
          | none =>
            have hR : ie2 (C ++ [(1, 0, 0)]) (flg C G) (gt G i) dm n (j + 1) (some j) e = R := hR
            refine ⟨fun c_ => absurd c_ (by decide), fun c_ => ?_⟩
            conv => whnf
            refine hK _ _ _ _ _ _ (go hc 3 (fun K hK => ?_))
            conv => whnf
            try simp only [nI_1]
            refine hK _ _ _ _ _ _ (Runs.less hc [0, 1, 2, 3, 4, 5] rfl rfl rfl rfl (n145 m h (some j) e hm hf (fun q hq => by injection hq with hq; omega) hR))
          | some q =>
            have hq := hff q rfl
            have hR : ie2 (C ++ [(1, 0, 0)]) (flg C G) (gt G i) dm n (j + 1) (some q) (e || decide (xp (gt (C ++ [(1, 0, 0)]) q) (gt (C ++ [(1, 0, 0)]) j) ≠ (0, 0, 0))) = R := hR
            have n143 : ∀ (m' : MM) (h' : PH) (t' : Bool), MR m' D Z h' → Fx [7] m0 m' → t' = (e || decide (xp (gt (C ++ [(1, 0, 0)]) q) (gt (C ++ [(1, 0, 0)]) j) ≠ (0, 0, 0))) → Runs (d + 3) call sc m_X4_isEnd Q 143 [(0, .ref 60), (1, .int (nI i)), (2, .int Y), (3, .int (fwI (some q))), (4, .int (bI01 e)), (5, .int (nI j))] [.int (bI01 t')] h' 0 0 := by
              intro m' h' t' hm' hf' ht'
              rw [← ht'] at hR
              refine go hc 1 (fun K hK => ?_)
              conv => whnf
              try simp only [nI_1]
              refine hK _ _ _ _ _ _ (Runs.less hc [0, 1, 2, 3, 4, 5] rfl rfl rfl rfl (n145 m' h' (some q) t' hm' hf' (fun q' hq' => by injection hq' with hq'; omega) hR))
            refine ⟨fun c_ => ?_, fun c_ => absurd (show nI 0 ≤ nI q from nI_le (by omega) (by omega)) c_⟩
            conv => whnf
            refine hK _ _ _ _ _ _ (go hc 2 (fun K hK => ?_))
            conv => whnf
            cases e with
            | true =>
              refine ⟨fun c_ => absurd c_ (by decide), fun c_ => ?_⟩
              conv => whnf
              refine hK _ _ _ _ _ _ ?_
              refine go hc 2 (fun K hK => ?_)
              conv => whnf
              try simp only [nI_1]
              refine hK _ _ _ _ _ _ (Runs.less hc [0, 1, 2, 3, 4, 5] rfl rfl rfl rfl (n143 m h true hm hf rfl))
            | false =>
              have eq1 := hCm.v0 (show q < (C ++ [((1, 0, 0) : V3)]).length by omega)
              refine ⟨fun c_ => ?_, fun c_ => absurd (rfl) c_⟩
              conv => whnf
              refine hK _ _ _ _ _ _ (go hc 13 (fun K hK => ?_))
              conv => whnf
              refine ⟨_, _, hm.M, rfl, ?_⟩
              conv => whnf
              refine ⟨_, _, hm.M, rfl, ?_⟩
              conv => whnf
              refine ⟨_, hm.M, Nat.le_of_ble_eq_true rfl, ?_⟩
              conv => whnf
              refine callee hc (e_cross hm (a := 5) (b := 5) (i := 3 * q) (j := 3 * j) (by decide) (by decide) (by decide) (by decide) (im rfl rfl) (im rfl rfl) (show 3 * q + 2 < 1800 by omega) (show 3 * j + 2 < 1800 by omega) (by rw [eq1, ej]; exact hx c1 _ (gt_mem (by omega)) _ (gt_mem (by omega))) ?_)
              intro m2 h2 hm v2 f2
              rw [eq1, ej]
              conv => whnf
              have hf2 := hf.trans f2
              by_cases c2 : xp (gt (C ++ [(1, 0, 0)]) q) (gt (C ++ [(1, 0, 0)]) j) = (0, 0, 0)
              · rw [decide_eq_false (fun z => z c2)]
                refine ⟨fun c_ => ?_, fun c_ => absurd (rfl) c_⟩
                conv => whnf
                refine hK _ _ _ _ _ _ (go hc 1 (fun K hK => ?_))
                conv => whnf
                try simp only [nI_1]
                refine hK _ _ _ _ _ _ (Runs.less hc [0, 1, 2, 3, 4, 5] rfl rfl rfl rfl (n143 m2 h2 false hm hf2 (by rw [decide_eq_false (fun z => z c2)]; rfl)))
              · rw [decide_eq_true c2]
                refine ⟨fun c_ => absurd c_ (by decide), fun c_ => ?_⟩
                conv => whnf
                refine hK _ _ _ _ _ _ ?_
                refine go hc 2 (fun K hK => ?_)
                conv => whnf
                try simp only [nI_1]
                refine hK _ _ _ _ _ _ (Runs.less hc [0, 1, 2, 3, 4, 5] rfl rfl rfl rfl (n143 m2 h2 true hm hf2 (by rw [decide_eq_true c2]; rfl)))
      · rw [if_pos (Or.inr c)] at hR
        rw [decide_eq_false c]
        refine ⟨fun c_ => ?_, fun c_ => absurd (rfl) c_⟩
        conv => whnf
        refine hK _ _ _ _ _ _ (go hc 1 (fun K hK => ?_))
        conv => whnf
        try simp only [nI_1]
        refine hK _ _ _ _ _ _ (Runs.less hc [0, 1, 2, 3, 4, 5] rfl rfl rfl rfl (n145 m h f e hm hf (fun q hq => by have := hff q hq; omega) hR))
theorem e_isEnd (hm : MR m D Z h) (h0 : KG m C G) (h9 : ∀ j, j < C.length → m 9 j = b2i (flatB G (gt C j))) {i dm : Nat} {X Y : Int32} (hX : X = nI i) (hY : Y = nI dm) (hdm : dm < 3) (hi : i < G.length) (hd : ∀ k ∈ C ++ [((1, 0, 0) : V3)], inL (dot k (gt G i))) (hx : dm ≠ 1 → ∀ k ∈ C ++ [((1, 0, 0) : V3)], ∀ k' ∈ C ++ [((1, 0, 0) : V3)], inV (xp k k'))
    (hQ : ∀ m' h', MR m' D Z h' → KG m' C G → (∀ j, j < C.length → m' 9 j = b2i (flatB G (gt C j))) → Fx [5, 7, 9] m m' → Q (.inl (some (.int (bI01 (endB C G (gt G i) dm))))) h') : wpC sc (d + 4) 116 [.ref 60, .int X, .int Y] h Q := by
  subst hX
  have hcl := h0.2.2.1
  have F6 := h0.F6
  unfold endB at hQ
  refine enter rfl rfl (fun call hc => go hc 40 (fun K hK => ?_))
  conv => whnf
  refine ⟨_, _, hm.M, rfl, ?_⟩
  conv => whnf
  refine ⟨_, _, hm.M, rfl, ?_⟩
  rw [F6]
  conv => whnf
  refine ⟨_, _, hm.L5, ixv (k := (3) * (C.length)) (im ((rfl : (3 : Int32) = nI 3)) ((rfl : nI (C.length) = nI (C.length)))) (by omega) (Nat.le_of_ble_eq_true rfl), ?_⟩
  rw [ixc (k := (3) * (C.length)) (im ((rfl : (3 : Int32) = nI 3)) ((rfl : nI (C.length) = nI (C.length)))) (by omega)]
  replace hm := hm.sL (a := 5) (i := (3) * (C.length)) (by decide) (oI_1)
  generalize hg1 : mu m 5 (3 * C.length) 1 = m1 at hm
  replace F6 : mF m1 15 = nI C.length := by rw [← hg1]; exact F6
  conv => whnf
  refine ⟨_, _, hm.M, rfl, ?_⟩
  conv => whnf
  refine ⟨_, _, hm.M, rfl, ?_⟩
  rw [F6]
  conv => whnf
  refine ⟨_, _, hm.L5, ixv (k := ((3) * (C.length)) + (1)) (ia (im ((rfl : (3 : Int32) = nI 3)) ((rfl : nI (C.length) = nI (C.length)))) ((rfl : (1 : Int32) = nI 1))) (by omega) (Nat.le_of_ble_eq_true rfl), ?_⟩
  rw [ixc (k := ((3) * (C.length)) + (1)) (ia (im ((rfl : (3 : Int32) = nI 3)) ((rfl : nI (C.length) = nI (C.length)))) ((rfl : (1 : Int32) = nI 1))) (by omega)]
  replace hm := hm.sL (a := 5) (i := ((3) * (C.length)) + (1)) (by decide) (oI_0)
  generalize hg2 : mu m1 5 (3 * C.length + 1) 0 = m2 at hm
  replace F6 : mF m2 15 = nI C.length := by rw [← hg2]; exact F6
  conv => whnf
  refine ⟨_, _, hm.M, rfl, ?_⟩
  conv => whnf
  refine ⟨_, _, hm.M, rfl, ?_⟩
  rw [F6]
  conv => whnf
  refine ⟨_, _, hm.L5, ixv (k := ((3) * (C.length)) + (2)) (ia (im ((rfl : (3 : Int32) = nI 3)) ((rfl : nI (C.length) = nI (C.length)))) ((rfl : (2 : Int32) = nI 2))) (by omega) (Nat.le_of_ble_eq_true rfl), ?_⟩
  rw [ixc (k := ((3) * (C.length)) + (2)) (ia (im ((rfl : (3 : Int32) = nI 3)) ((rfl : nI (C.length) = nI (C.length)))) ((rfl : (2 : Int32) = nI 2))) (by omega)]
  replace hm := hm.sL (a := 5) (i := ((3) * (C.length)) + (2)) (by decide) (oI_0)
  generalize hg3 : mu m2 5 (3 * C.length + 2) 0 = m3 at hm
  replace F6 : mF m3 15 = nI C.length := by rw [← hg3]; exact F6
  conv => whnf
  refine ⟨_, _, hm.M, rfl, ?_⟩
  conv => whnf
  refine ⟨_, _, hm.M, rfl, ?_⟩
  rw [F6]
  conv => whnf
  refine ⟨_, _, hm.B9, ixv (k := C.length) ((rfl : nI (C.length) = nI (C.length))) (by omega) (Nat.le_of_ble_eq_true rfl), ?_⟩
  rw [ixc (k := C.length) ((rfl : nI (C.length) = nI (C.length))) (by omega)]
  replace hm := hm.sB (a := 9) (i := C.length) (by decide) (nar_b false)
  generalize hg4 : mu m3 9 C.length (b2i false) = m4 at hm
  conv => whnf
  have o4 : ∀ j, j < 3 * C.length → m4 5 j = m 5 j := fun j hj => by rw [← hg4, mu_ne _ _ _ (by decide), ← hg3, mu_at_ne _ _ _ (by omega), ← hg2, mu_at_ne _ _ _ (by omega), ← hg1, mu_at_ne _ _ _ (by omega)]
  have f4 : Fx [5, 7, 9] m m4 := by rw [← hg4, ← hg3, ← hg2, ← hg1]; exact (((Fx.refl.mu (by decide)).mu (by decide)).mu (by decide)).mu (by decide)
  have r4 : RW m4 5 0 (C ++ [(1, 0, 0)]) := RW.push h0.1 (fun j hj => o4 j (by omega)) (by rw [Nat.zero_add]; unfold vAt; rw [← hg4, mu_ne _ _ _ (by decide), ← hg3, mu_at, mu_at_ne _ _ _ (by omega), mu_at_ne _ _ _ (by omega), ← hg2, mu_at, mu_at_ne _ _ _ (by omega), ← hg1, mu_at])
  have k4 : KG m4 C G := ⟨RW.copy h0.1 o4, by rw [f4 15 (by decide)]; exact h0.2.1, hcl, h0.2.2.2.1.eq (f4 4 (by decide)), by rw [f4 14 (by decide)]; exact h0.2.2.2.2.1, h0.2.2.2.2.2⟩
  have e9 : ∀ j, j < C.length → m4 9 j = b2i (flatB G (gt C j)) := fun j hj => by
    rw [← hg4, mu_at_ne _ _ _ (by omega), ← hg3, mu_ne _ _ _ (by decide), ← hg2, mu_ne _ _ _ (by decide), ← hg1, mu_ne _ _ _ (by decide)]
    exact h9 j hj
  have h94 : ∀ j, j ≤ C.length → m4 9 j = b2i (flg C G j) := fun j hj => by
    unfold flg
    by_cases c : j < C.length
    · rw [if_pos c]; exact e9 j c
    · rw [if_neg c, show j = C.length by omega, ← hg4, mu_at]
  try simp only [nI_1]
  refine hK _ _ _ _ _ _ (Runs.less hc [0, 1, 2, 3, 4, 5] rfl rfl rfl rfl (ie_loop (Q := qth _ Q) hc k4 r4 h94 hdm hi hd hx hY (R := ie2 (C ++ [(1, 0, 0)]) (flg C G) (gt G i) dm (C.length + 1) 0 none false) (fun m5 h5 hm5 f5 => hQ m5 h5 hm5 (k4.fx f5 (by decide) (by decide) (by decide) (by decide)) (fun j hj => by rw [f5 9 (by decide)]; exact e9 j hj) (f4.trans (f5.mono (by decide)))) (C.length + 1) 0 m4 _ none false (by omega) hm Fx.refl (fun q hq => by cases hq) rfl))
/-- the ends among the generators -/
def enF (C G : List V3) (dm : Nat) : List V3 → (Nat → List V3) → Nat → List V3
  | [], M => M
  | g :: t, M => enF C G dm t (if endB C G g dm = true then mkM M (if 0 < (prm g).1 then 4 else 3) (prm g) else M)
theorem me_loop {call : Callee} (hc : call = wpC sc (d + 4)) {m0 : MM} {dm : Nat} (hdm : dm < 3) {Y : Int32} (hY : Y = nI dm) (hd : ∀ g ∈ G, ∀ k ∈ C ++ [((1, 0, 0) : V3)], inL (dot k g)) (hx : dm ≠ 1 → ∀ k ∈ C ++ [((1, 0, 0) : V3)], ∀ k' ∈ C ++ [((1, 0, 0) : V3)], inV (xp k k')) (hgi : ∀ g ∈ G, inV g) {R : Nat → List V3}
    (hQ : ∀ m' h', MR m' D Z h' → Mk m' R → Fx [5, 7, 9, 10, 11] m0 m' → Q (.inl none) h') :
    ∀ (n i : Nat) (m : MM) (h : PH) (M : Nat → List V3), i + n = G.length → MR m D Z h → KG m C G → (∀ j, j < C.length → m 9 j = b2i (flatB G (gt C j))) → Mk m M → Mok M → (M 3).length + n ≤ 600 → (M 4).length + n ≤ 600 → Fx [5, 7, 9, 10, 11] m0 m → enF C G dm (G.drop i) M = R →
    Runs (d + 4) call sc m_X4_makeEnds Q 2 [(0, .ref 60), (1, .int Y), (2, .int (nI i))] [] h 0 0 := by
  intro n
  induction n with
  | zero =>
    intro i m h M hi hm hkg h9 hM hMo l3 l4 hf hR
    rw [List.drop_eq_nil_of_le (by omega)] at hR
    have hR : M = R := hR
    subst hR
    have hgl := hkg.2.2.2.2.2
    have F5 := hkg.F5
    refine go hc 4 (fun K hK => ?_)
    conv => whnf
    refine ⟨_, _, hm.M, rfl, ?_⟩
    rw [F5]
    conv => whnf
    refine ⟨fun c_ => ?_, fun c_ => absurd (nI_le (by omega) (by omega)) c_⟩
    conv => whnf
    refine hK _ _ _ _ _ _ (go hc 1 (fun K hK => ?_))
    conv => whnf
    exact hQ m h hm hM hf
  | succ n ih =>
    intro i m h M hi hm hkg h9 hM hMo l3 l4 hf hR
    have hil : i < G.length := by omega
    have hgl := hkg.2.2.2.2.2
    have F5 := hkg.F5
    have hgm := gt_mem hil
    rw [drop_gt hil] at hR
    unfold enF at hR
    have n51 : ∀ (m' : MM) (h' : PH) (M' : Nat → List V3), MR m' D Z h' → KG m' C G → (∀ j, j < C.length → m' 9 j = b2i (flatB G (gt C j))) → Mk m' M' → Mok M' → (M' 3).length + n ≤ 600 → (M' 4).length + n ≤ 600 → Fx [5, 7, 9, 10, 11] m0 m' → enF C G dm (G.drop (i + 1)) M' = R → Runs (d + 4) call sc m_X4_makeEnds Q 51 [(0, .ref 60), (1, .int Y), (2, .int (nI i))] [] h' 0 0 := by
      intro m' h' M' hm' k' e9' hM' hMo' l3' l4' hf' hR'
      refine go hc 2 (fun K hK => ?_)
      conv => whnf
      try simp only [nI_1]
      refine hK _ _ _ _ _ _ (Runs.less hc [0, 1, 2] rfl rfl rfl rfl (ih (i + 1) m' h' M' (by omega) hm' k' e9' hM' hMo' l3' l4' hf' hR'))
    refine go hc 4 (fun K hK => ?_)
    conv => whnf
    refine ⟨_, _, hm.M, rfl, ?_⟩
    rw [F5]
    conv => whnf
    refine ⟨fun c_ => absurd c_ (nI_ge hil (by omega)), fun c_ => ?_⟩
    conv => whnf
    refine hK _ _ _ _ _ _ (go hc 5 (fun K hK => ?_))
    conv => whnf
    refine ⟨_, hm.M, Nat.le_of_ble_eq_true rfl, ?_⟩
    conv => whnf
    refine callee hc (e_isEnd hm hkg h9 rfl hY hdm hil (hd _ hgm) hx ?_)
    intro m1 h1 hm k1 e91 f1
    conv => whnf
    have hf1 := hf.trans (f1.mono (k := [5, 7, 9, 10, 11]) (by decide))
    have hM1 := hM.fx f1 (by decide) (by decide)
    cases hb : endB C G (gt G i) dm with
    | false =>
      rw [hb] at hR
      have hR : enF C G dm (G.drop (i + 1)) M = R := hR
      refine ⟨fun c_ => ?_, fun c_ => absurd (rfl) c_⟩
      conv => whnf
      refine hK _ _ _ _ _ _ (go hc 1 (fun K hK => ?_))
      conv => whnf
      try simp only [nI_1]
      refine hK _ _ _ _ _ _ (Runs.less hc [0, 1, 2] rfl rfl rfl rfl (n51 m1 h1 M hm k1 e91 hM1 hMo (by omega) (by omega) hf1 hR))
    | true =>
      rw [hb] at hR
      have hR : enF C G dm (G.drop (i + 1)) (mkM M (if 0 < (prm (gt G i)).1 then 4 else 3) (prm (gt G i))) = R := hR
      refine ⟨fun c_ => absurd c_ (by decide), fun c_ => ?_⟩
      conv => whnf
      refine hK _ _ _ _ _ _ (go hc 13 (fun K hK => ?_))
      conv => whnf
      refine ⟨_, _, hm.M, rfl, ?_⟩
      conv => whnf
      refine ⟨_, hm.M, Nat.le_of_ble_eq_true rfl, ?_⟩
      conv => whnf
      refine callee hc (e_load hm (a := 4) (by decide) rfl (show 3 * i + 2 < 1800 by omega) (k1.g hil) (hgi _ hgm) ?_)
      intro m2 h2 hm v2 f2
      conv => whnf
      refine ⟨_, _, hm.M, rfl, ?_⟩
      conv => whnf
      refine ⟨_, _, hm.L7, ixv (k := 0) ((rfl : (0 : Int32) = nI 0)) (by omega) (Nat.le_of_ble_eq_true rfl), ?_⟩
      rw [ixc (k := 0) ((rfl : (0 : Int32) = nI 0)) (by omega)]
      conv => whnf
      have hf2 := hf1.trans (f2.mono (k := [5, 7, 9, 10, 11]) (by decide))
      have k2 := k1.fx f2 (by decide) (by decide) (by decide) (by decide)
      have e92 : ∀ j, j < C.length → m2 9 j = b2i (flatB G (gt C j)) := fun j hj => by rw [f2 9 (by decide)]; exact e91 j hj
      have hM2 := hM1.fx f2 (by decide) (by decide)
      have hpi := prm_inV (hgi _ hgm)
      have c0 : m2 7 0 = (prm (gt G i)).1 := congrArg Prod.fst v2
      have n48 : ∀ k : Nat, (k = 3 ∨ k = 4) → k = (if 0 < (prm (gt G i)).1 then 4 else 3) → Runs (d + 4) call sc m_X4_makeEnds Q 48 [(0, .ref 60), (1, .int Y), (2, .int (nI i))] [.int (nI k), .ref 60] h2 0 0 := by
        intro k hk hke
        rw [← hke] at hR
        have hlk : (M k).length < 600 := by rcases hk with e | e <;> rw [e] <;> omega
        refine go hc 1 (fun K hK => ?_)
        conv => whnf
        refine ⟨_, hm.M, Nat.le_of_ble_eq_true rfl, ?_⟩
        conv => whnf
        refine callee hc (e_make hm (k := k) rfl (by omega) hM2 hlk (hMo k (by omega)) (by rw [v2]; exact hpi) ?_)
        intro m3 h3 hm M3 v3 f3
        conv => whnf
        rw [v2] at M3
        have l3' := mkM_len M k 3 (prm (gt G i))
        have l4' := mkM_len M k 4 (prm (gt G i))
        refine hK _ _ _ _ _ _ ?_
        exact n51 m3 h3 (mkM M k (prm (gt G i))) hm (k2.fx f3 (by decide) (by decide) (by decide) (by decide)) (fun j hj => by rw [f3 9 (by decide)]; exact e92 j hj) M3 (hMo.mk hpi) (by omega) (by omega) (hf2.trans (f3.mono (by decide))) hR
      by_cases c : 0 < (prm (gt G i)).1
      · refine ⟨fun c_ => absurd c_ (by unfold mL; rw [c0]; exact fun q => by have := (kLe0 hpi.1).mp q; omega), fun c_ => ?_⟩
        conv => whnf
        refine hK _ _ _ _ _ _ (go hc 2 (fun K hK => ?_))
        conv => whnf
        try simp only [nI_1]
        refine hK _ _ _ _ _ _ (Runs.less hc [0, 1, 2] rfl rfl rfl rfl (n48 4 (Or.inr rfl) (by rw [if_pos c])))
      · refine ⟨fun c_ => ?_, fun c_ => absurd (by unfold mL; rw [c0]; exact (kLe0 hpi.1).mpr (by omega)) c_⟩
        conv => whnf
        refine hK _ _ _ _ _ _ (go hc 1 (fun K hK => ?_))
        conv => whnf
        try simp only [nI_1]
        refine hK _ _ _ _ _ _ (Runs.less hc [0, 1, 2] rfl rfl rfl rfl (n48 3 (Or.inl rfl) (by rw [if_neg c])))
theorem e_makeEnds (hm : MR m D Z h) (h0 : KG m C G) (h9 : ∀ j, j < C.length → m 9 j = b2i (flatB G (gt C j))) {dm : Nat} {Y : Int32} (hY : Y = nI dm) (hdm : dm < 3) (hd : ∀ g ∈ G, ∀ k ∈ C ++ [((1, 0, 0) : V3)], inL (dot k g)) (hx : dm ≠ 1 → ∀ k ∈ C ++ [((1, 0, 0) : V3)], ∀ k' ∈ C ++ [((1, 0, 0) : V3)], inV (xp k k')) (hgi : ∀ g ∈ G, inV g) (hM : Mk m M) (hMo : Mok M) (l3 : M 3 = []) (l4 : M 4 = [])
    (hQ : ∀ m' h', MR m' D Z h' → Mk m' (enF C G dm G M) → Fx [5, 7, 9, 10, 11] m m' → Q (.inl none) h') : wpC sc (d + 5) 115 [.ref 60, .int Y] h Q := by
  have hgl := h0.2.2.2.2.2
  refine enter rfl rfl (fun call hc => go hc 2 (fun K hK => ?_))
  conv => whnf
  try simp only [nI_1]
  refine hK _ _ _ _ _ _ (Runs.less hc [0, 1, 2] rfl rfl rfl rfl (me_loop (Q := qth _ Q) hc hdm hY hd hx hgi (R := enF C G dm G M) hQ G.length 0 m h M (by omega) hm h0 h9 hM hMo (by rw [l3, List.length_nil]; omega) (by rw [l4, List.length_nil]; omega) Fx.refl rfl))
end EENDS
