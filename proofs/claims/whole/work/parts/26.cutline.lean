/-! cutting a line -/
/-- the halved line, turned so that the product is not below 0 -/
def hvV (p a : V3) : V3 := if dot p a < 0 then neg3 p else p
def slF (s : Int) (a q : V3) (v : V3) : V3 := mixV s (-(dot v a)) v q
def slL (s : Int) (a q : V3) (hh : Nat) (i : Nat) (v : V3) : V3 := if i = hh then v else slF s a q v
section CUTLINE
variable {sc : Scr} {d : Nat} {W : AW} {X h : PH} {c : Nat} {Q : Out → PH → Prop}
theorem cl_2 {call : Callee} (hc : call = wpC sc (d + 2)) (hc0 : c < 10) {hh : Nat} {s : Int} {a q : V3} (hh1 : hh < (W.1 (2 * c)).length) (hq : gt (W.1 (2 * c)) hh = q)
    (hl48 : (W.1 (2 * c + 1)).length ≤ 48)
    (hb : ∀ v ∈ W.1 (2 * c + 1), inV (lin s (-(dot v a)) v q))
    (hQ : ∀ h, Rep (sl W (2 * c + 1) ((W.1 (2 * c + 1)).mapIdx (fun _ => slF s a q))) X h → Runs (d + 2) call sc m_X0_cutLine Q 151 [(0, .ref (cid c)), (1, .int (nI hh)), (2, .long (Int64.ofInt a.1)), (4, .long (Int64.ofInt a.2.1)), (6, .long (Int64.ofInt a.2.2)), (8, .long (Int64.ofInt s))] [] h 0 0) :
    ∀ (n i : Nat) (h : PH), i + n = (W.1 (2 * c + 1)).length → Rep (sl W (2 * c + 1) (part (fun _ => slF s a q) (W.1 (2 * c + 1)) i)) X h →
    Runs (d + 2) call sc m_X0_cutLine Q 102 [(0, .ref (cid c)), (1, .int (nI hh)), (2, .long (Int64.ofInt a.1)), (4, .long (Int64.ofInt a.2.1)), (6, .long (Int64.ofInt a.2.2)), (8, .long (Int64.ofInt s)), (10, .int (nI i))] [] h 0 0 := by
  intro n
  induction n with
  | zero =>
    intro i h hi hr
    refine go hc 5 (fun K hK => ?_)
    conv => whnf
    refine ⟨_, _, hr.C _ (by omega), rfl, ?_⟩
    conv => whnf
    refine ⟨_, hr.R _ (by omega), Nat.le_of_ble_eq_true rfl, ?_⟩
    conv => whnf
    refine callee hc (r_count hr (by omega) ?_)
    conv => whnf
    rw [sl_self, part_len]
    refine ⟨fun c_ => ?_, fun c_ => absurd (nI_le (by omega) (by omega)) c_⟩
    conv => whnf
    rw [show i = (W.1 (2 * c + 1)).length by omega, part_all] at hr
    try simp only [nI_1]
    refine hK _ _ _ _ _ _ (Runs.less hc [0, 1, 2, 4, 6, 8] rfl rfl rfl rfl (hQ h hr))
  | succ n ih =>
    intro i h hi hr
    have hil : i < (W.1 (2 * c + 1)).length := by omega
    generalize hw : sl W (2 * c + 1) (part (fun _ => slF s a q) (W.1 (2 * c + 1)) i) = W1 at hr
    have e1 : W1.1 (2 * c + 1) = part (fun _ => slF s a q) (W.1 (2 * c + 1)) i := by rw [← hw, sl_self]
    have e2 : W1.1 (2 * c) = W.1 (2 * c) := by rw [← hw, sl_ne _ _ (by omega)]
    have e3 : (W1.1 (2 * c + 1)).length = (W.1 (2 * c + 1)).length := by rw [e1, part_len]
    have e4 : gt (W1.1 (2 * c + 1)) i = gt (W.1 (2 * c + 1)) i := by rw [e1, gt_part hil, if_neg (by omega)]
    have e5 : gt (W1.1 (2 * c)) hh = q := by rw [e2, hq]
    have hb1 := hb _ (gt_mem hil)
    refine go hc 5 (fun K hK => ?_)
    conv => whnf
    refine ⟨_, _, hr.C _ (by omega), rfl, ?_⟩
    conv => whnf
    refine ⟨_, hr.R _ (by omega), Nat.le_of_ble_eq_true rfl, ?_⟩
    conv => whnf
    refine callee hc (r_count hr (by omega) ?_)
    conv => whnf
    rw [e3]
    refine ⟨fun c_ => absurd c_ (nI_ge hil (by omega)), fun c_ => ?_⟩
    conv => whnf
    refine hK _ _ _ _ _ _ (go hc 18 (fun K hK => ?_))
    conv => whnf
    refine ⟨_, _, hr.C _ (by omega), rfl, ?_⟩
    conv => whnf
    refine ⟨_, _, hr.C _ (by omega), rfl, ?_⟩
    conv => whnf
    refine ⟨_, hr.R _ (by omega), Nat.le_of_ble_eq_true rfl, ?_⟩
    conv => whnf
    refine callee hc (r_product hr a (by omega) (by omega) rfl rfl rfl ?_)
    rw [e4]
    conv => whnf
    refine ⟨_, _, hr.C _ (by omega), rfl, ?_⟩
    conv => whnf
    refine ⟨_, hr.R _ (by omega), Nat.le_of_ble_eq_true rfl, ?_⟩
    conv => whnf
    refine callee hc (r_mix hr (by omega) (by omega) (by omega) (by rw [e2]; exact hh1) rfl (Int64.ofInt_neg _).symm (by rw [e4, e5]; exact hb1) ?_)
    intro h hr
    rw [e4, e5, e1, part_set (f := fun _ => slF s a q) hil (v := mixV s (-(dot (gt (W.1 (2 * c + 1)) i) a)) (gt (W.1 (2 * c + 1)) i) q) rfl, ← hw, sl_sl] at hr
    conv => whnf
    try simp only [nI_1]
    refine hK _ _ _ _ _ _ (Runs.less hc [0, 1, 2, 4, 6, 8, 10] rfl rfl rfl rfl (ih _ _ (by omega) hr))
theorem cl_1 {call : Callee} (hc : call = wpC sc (d + 2)) (hc0 : c < 10) {hh : Nat} {s : Int} {a q : V3} (hh1 : hh < (W.1 (2 * c)).length) (hq : gt (W.1 (2 * c)) hh = q)
    (hl48 : (W.1 (2 * c)).length ≤ 48)
    (hb : ∀ v ∈ W.1 (2 * c), inV (lin s (-(dot v a)) v q))
    (hQ : ∀ h, Rep (sl W (2 * c) ((W.1 (2 * c)).mapIdx (slL s a q hh))) X h → Runs (d + 2) call sc m_X0_cutLine Q 102 [(0, .ref (cid c)), (1, .int (nI hh)), (2, .long (Int64.ofInt a.1)), (4, .long (Int64.ofInt a.2.1)), (6, .long (Int64.ofInt a.2.2)), (8, .long (Int64.ofInt s)), (10, .int (nI 0))] [] h 0 0) :
    ∀ (n i : Nat) (h : PH), i + n = (W.1 (2 * c)).length → Rep (sl W (2 * c) (part (slL s a q hh) (W.1 (2 * c)) i)) X h →
    Runs (d + 2) call sc m_X0_cutLine Q 44 [(0, .ref (cid c)), (1, .int (nI hh)), (2, .long (Int64.ofInt a.1)), (4, .long (Int64.ofInt a.2.1)), (6, .long (Int64.ofInt a.2.2)), (8, .long (Int64.ofInt s)), (10, .int (nI i))] [] h 0 0 := by
  intro n
  induction n with
  | zero =>
    intro i h hi hr
    refine go hc 5 (fun K hK => ?_)
    conv => whnf
    refine ⟨_, _, hr.C _ (by omega), rfl, ?_⟩
    conv => whnf
    refine ⟨_, hr.R _ (by omega), Nat.le_of_ble_eq_true rfl, ?_⟩
    conv => whnf
    refine callee hc (r_count hr (by omega) ?_)
    conv => whnf
    rw [sl_self, part_len]
    refine ⟨fun c_ => ?_, fun c_ => absurd (nI_le (by omega) (by omega)) c_⟩
    conv => whnf
    refine hK _ _ _ _ _ _ (go hc 2 (fun K hK => ?_))
    conv => whnf
    rw [show i = (W.1 (2 * c)).length by omega, part_all] at hr
    try simp only [nI_1]
    refine hK _ _ _ _ _ _ (Runs.less hc [0, 1, 2, 4, 6, 8, 10] rfl rfl rfl rfl (hQ h hr))
  | succ n ih =>
    intro i h hi hr
    have hil : i < (W.1 (2 * c)).length := by omega
    generalize hw : sl W (2 * c) (part (slL s a q hh) (W.1 (2 * c)) i) = W1 at hr
    have e1 : W1.1 (2 * c) = part (slL s a q hh) (W.1 (2 * c)) i := by rw [← hw, sl_self]
    have e3 : (W1.1 (2 * c)).length = (W.1 (2 * c)).length := by rw [e1, part_len]
    have e4 : gt (W1.1 (2 * c)) i = gt (W.1 (2 * c)) i := by rw [e1, gt_part hil, if_neg (by omega)]
    have e5 : gt (W1.1 (2 * c)) hh = q := by
      rw [e1, gt_part hh1]
      unfold slL
      rw [if_pos rfl, hq]
      split <;> rfl
    have hb1 := hb _ (gt_mem hil)
    refine go hc 5 (fun K hK => ?_)
    conv => whnf
    refine ⟨_, _, hr.C _ (by omega), rfl, ?_⟩
    conv => whnf
    refine ⟨_, hr.R _ (by omega), Nat.le_of_ble_eq_true rfl, ?_⟩
    conv => whnf
    refine callee hc (r_count hr (by omega) ?_)
    conv => whnf
    rw [e3]
    refine ⟨fun c_ => absurd c_ (nI_ge hil (by omega)), fun c_ => ?_⟩
    conv => whnf
    refine hK _ _ _ _ _ _ (go hc 3 (fun K hK => ?_))
    conv => whnf
    by_cases hih : i = hh
    · refine ⟨fun c_ => ?_, fun c_ => absurd (by rw [hih]) c_⟩
      conv => whnf
      refine hK _ _ _ _ _ _ (go hc 2 (fun K hK => ?_))
      conv => whnf
      try simp only [nI_1]
      refine hK _ _ _ _ _ _ (Runs.less hc [0, 1, 2, 4, 6, 8, 10] rfl rfl rfl rfl (ih _ _ (by omega) (by rw [← part_skip (fun _ => by unfold slL; rw [if_pos hih]), hw]; exact hr)))
    · refine ⟨fun c_ => absurd c_ (fun q => hih ((nI_eq (by omega) (by omega)).mp q)), fun c_ => ?_⟩
      conv => whnf
      refine hK _ _ _ _ _ _ (go hc 18 (fun K hK => ?_))
      conv => whnf
      refine ⟨_, _, hr.C _ (by omega), rfl, ?_⟩
      conv => whnf
      refine ⟨_, _, hr.C _ (by omega), rfl, ?_⟩
      conv => whnf
      refine ⟨_, hr.R _ (by omega), Nat.le_of_ble_eq_true rfl, ?_⟩
      conv => whnf
      refine callee hc (r_product hr a (by omega) (by omega) rfl rfl rfl ?_)
      rw [e4]
      conv => whnf
      refine ⟨_, _, hr.C _ (by omega), rfl, ?_⟩
      conv => whnf
      refine ⟨_, hr.R _ (by omega), Nat.le_of_ble_eq_true rfl, ?_⟩
      conv => whnf
      refine callee hc (r_mix hr (by omega) (by omega) (by omega) (by rw [e3]; exact hh1) rfl (Int64.ofInt_neg _).symm (by rw [e4, e5]; exact hb1) ?_)
      intro h hr
      rw [e4, e5, e1, part_set hil (by unfold slL; rw [if_neg hih]; rfl), ← hw, sl_sl] at hr
      conv => whnf
      try simp only [nI_1]
      refine hK _ _ _ _ _ _ (Runs.less hc [0, 1, 2, 4, 6, 8, 10] rfl rfl rfl rfl (ih _ _ (by omega) hr))
/-- what is left of lines and edges -/
def clL (L : List V3) (hh : Nat) (a : V3) : List V3 := ((L.set hh (hvV (gt L hh) a)).mapIdx (slL (dot (hvV (gt L hh) a) a) a (hvV (gt L hh) a) hh)).eraseIdx hh
def clE (L E : List V3) (hh : Nat) (a : V3) : List V3 := E.map (slF (dot (hvV (gt L hh) a) a) a (hvV (gt L hh) a)) ++ [hvV (gt L hh) a]
theorem cl_0 {call : Callee} (hc : call = wpC sc (d + 2)) (hc0 : c < 10) {hh : Nat} {s : Int} {a q : V3} {L E : List V3} (hr : Rep (sC W c L E) X h) (hh1 : hh < L.length) (hq : gt L hh = q) (hs : s = dot q a)
    (hcap : E.length < 48) (hbl : ∀ v ∈ L, inV (lin s (-(dot v a)) v q)) (hbe : ∀ v ∈ E, inV (lin s (-(dot v a)) v q))
    (hQ : ∀ h, Rep (sC W c ((L.mapIdx (slL s a q hh)).eraseIdx hh) (E.map (slF s a q) ++ [q])) X h → Q (.inl none) h) :
    Runs (d + 2) call sc m_X0_cutLine Q 26 [(0, .ref (cid c)), (1, .int (nI hh)), (2, .long (Int64.ofInt a.1)), (4, .long (Int64.ofInt a.2.1)), (6, .long (Int64.ofInt a.2.2))] [] h 0 0 := by
  have hl48 := hr.c48 (show 2 * c < 21 by omega)
  have he48 := hr.c48 (show 2 * c + 1 < 21 by omega)
  have hce := cap_e hc0
  refine go hc 10 (fun K hK => ?_)
  conv => whnf
  refine ⟨_, _, hr.C _ (by omega), rfl, ?_⟩
  conv => whnf
  refine ⟨_, hr.R _ (by omega), Nat.le_of_ble_eq_true rfl, ?_⟩
  conv => whnf
  refine callee hc (r_product hr a (by omega) (by rw [sC_l]; exact hh1) rfl rfl rfl ?_)
  rw [sC_l, hq, ← hs]
  conv => whnf
  try simp only [nI_1]
  refine hK _ _ _ _ _ _ (Runs.less hc [0, 1, 2, 4, 6, 8, 10] rfl rfl rfl rfl (cl_1 (q := q) hc hc0 (by rw [sC_l]; exact hh1) (by rw [sC_l]; exact hq) hl48 (by rw [sC_l]; exact hbl) ?_ _ 0 h (Nat.zero_add _) (by rw [part_0, sl_id]; exact hr)))
  intro h hr
  rw [sC_l, sl_sC_l] at hr
  have hgL : gt (L.mapIdx (slL s a q hh)) hh = q := by
    rw [gt_mapIdx hh1]
    unfold slL
    rw [if_pos rfl, hq]
  refine cl_2 hc hc0 (q := q) (by rw [sC_l, List.length_mapIdx]; exact hh1) (by rw [sC_l]; exact hgL) (hr.c48 (by omega)) (by rw [sC_e]; exact hbe) ?_ _ 0 h (Nat.zero_add _) (by rw [part_0, sl_id]; exact hr)
  intro h hr
  rw [sC_e, sl_sC_e] at hr
  have e1 : E.mapIdx (fun _ => slF s a q) = E.map (slF s a q) := by
    refine gt_ext (by rw [List.length_mapIdx, List.length_map]) fun i hi => ?_
    rw [List.length_mapIdx] at hi
    rw [gt_mapIdx hi]
    refine (gt_of ?_).symm
    rw [List.getElem?_map, gt_some hi]; rfl
  rw [e1] at hr
  have hlen : hh < ((sC W c (L.mapIdx (slL s a q hh)) (E.map (slF s a q))).1 (2 * c)).length := by rw [sC_l, List.length_mapIdx]; exact hh1
  refine go hc 23 (fun K hK => ?_)
  conv => whnf
  refine ⟨_, _, hr.C _ (by omega), rfl, ?_⟩
  conv => whnf
  refine ⟨_, _, hr.C _ (by omega), rfl, ?_⟩
  conv => whnf
  refine ⟨_, hr.R _ (by omega), Nat.le_of_ble_eq_true rfl, ?_⟩
  conv => whnf
  refine callee hc (r_at0 hr (by omega) hlen ?_)
  conv => whnf
  refine ⟨_, _, hr.C _ (by omega), rfl, ?_⟩
  conv => whnf
  refine ⟨_, hr.R _ (by omega), Nat.le_of_ble_eq_true rfl, ?_⟩
  conv => whnf
  refine callee hc (r_at1 hr (by omega) hlen ?_)
  conv => whnf
  refine ⟨_, _, hr.C _ (by omega), rfl, ?_⟩
  conv => whnf
  refine ⟨_, hr.R _ (by omega), Nat.le_of_ble_eq_true rfl, ?_⟩
  conv => whnf
  refine callee hc (r_at2 hr (by omega) hlen ?_)
  conv => whnf
  refine ⟨_, hr.R _ (by omega), Nat.le_of_ble_eq_true rfl, ?_⟩
  conv => whnf
  refine callee hc (r_add hr q (by omega) (by rw [sC_e, hce, List.length_map]; exact hcap) (by rw [sC_l, hgL]) (by rw [sC_l, hgL]) (by rw [sC_l, hgL]) ?_)
  intro h hr
  rw [sC_e, sl_sC_e] at hr
  conv => whnf
  refine ⟨_, _, hr.C _ (by omega), rfl, ?_⟩
  conv => whnf
  refine ⟨_, hr.R _ (by omega), Nat.le_of_ble_eq_true rfl, ?_⟩
  conv => whnf
  refine callee hc (r_remove hr (by omega) (by rw [sC_l, List.length_mapIdx]; exact hh1) ?_)
  intro h hr
  rw [sC_l, sl_sC_l] at hr
  conv => whnf
  exact hQ h hr
theorem r_cutLine (hr : Rep W X h) (hc0 : c < 10) {hh : Nat} {a : V3} {x y z : Int64} (hx : x = Int64.ofInt a.1) (hy : y = Int64.ofInt a.2.1) (hz : z = Int64.ofInt a.2.2) (hh1 : hh < (W.1 (2 * c)).length) (hcap : (W.1 (2 * c + 1)).length < 48) (hba : bdV RD a) (hbl : ∀ v ∈ W.1 (2 * c), bdV BD v) (hbe : ∀ v ∈ W.1 (2 * c + 1), bdV BD v)
    (hQ : ∀ h, Rep (sC W c (clL (W.1 (2 * c)) hh a) (clE (W.1 (2 * c)) (W.1 (2 * c + 1)) hh a)) X h → Q (.inl none) h) : wpC sc (d + 3) 7 [.ref (cid c), .int (nI hh), .long x, .long y, .long z] h Q := by
  subst hx; subst hy; subst hz
  unfold clL clE at hQ
  have hbp := hbl _ (gt_mem hh1)
  have hbd : ∀ v, bdV BD v → bdI 121500000000 (dot v a) := fun v hv => bd_dot hv hba
  have hbq : bdV BD (hvV (gt (W.1 (2 * c)) hh) a) := by
    unfold hvV
    split
    · exact hbp.neg
    · exact hbp
  have hmix : ∀ v, bdV BD v → inV (lin (dot (hvV (gt (W.1 (2 * c)) hh) a) a) (-(dot v a)) v (hvV (gt (W.1 (2 * c)) hh) a)) := fun v hv => (bd_lin (hbd _ hbq) (hbd v hv).neg hv hbq).inV (by decide)
  have hin : inL (dot (gt (W.1 (2 * c)) hh) a) := (hbd _ hbp).inL (by decide)
  have hset : ∀ v ∈ (W.1 (2 * c)).set hh (hvV (gt (W.1 (2 * c)) hh) a), bdV BD v := fun v hv => by
    rcases List.mem_or_eq_of_mem_set hv with h1 | h1
    · exact hbl v h1
    · rw [h1]; exact hbq
  refine enter rfl rfl (fun call hc => go hc 10 (fun K hK => ?_))
  conv => whnf
  refine ⟨_, _, hr.C _ (by omega), rfl, ?_⟩
  conv => whnf
  refine ⟨_, hr.R _ (by omega), Nat.le_of_ble_eq_true rfl, ?_⟩
  conv => whnf
  refine callee hc (r_product hr a (by omega) hh1 rfl rfl rfl ?_)
  conv => whnf
  have hfin : ∀ h, Rep (sC W c ((W.1 (2 * c)).set hh (hvV (gt (W.1 (2 * c)) hh) a)) (W.1 (2 * c + 1))) X h → Runs (d + 2) call sc m_X0_cutLine (qth (mTh m_X0_cutLine) Q) 26 [(0, .ref (cid c)), (1, .int (nI hh)), (2, .long (Int64.ofInt a.1)), (4, .long (Int64.ofInt a.2.1)), (6, .long (Int64.ofInt a.2.2))] [] h 0 0 := fun h hr =>
    cl_0 (Q := qth _ Q) hc hc0 hr (by rw [List.length_set]; exact hh1) (by rw [gt_set hh1, if_pos rfl]) rfl hcap (fun v hv => hmix v (hset v hv)) (fun v hv => hmix v (hbe v hv)) hQ
  by_cases hneg : dot (gt (W.1 (2 * c)) hh) a < 0
  · refine ⟨fun c_ => absurd c_ (fun q => by have := (kGe0 hin).mp q; omega), fun c_ => ?_⟩
    conv => whnf
    refine hK _ _ _ _ _ _ (go hc 4 (fun K hK => ?_))
    conv => whnf
    refine ⟨_, _, hr.C _ (by omega), rfl, ?_⟩
    conv => whnf
    refine ⟨_, hr.R _ (by omega), Nat.le_of_ble_eq_true rfl, ?_⟩
    conv => whnf
    refine callee hc (r_negate hr (by omega) hh1 ?_)
    intro h hr
    conv => whnf
    try simp only [nI_1]
    refine hK _ _ _ _ _ _ (Runs.less hc [0, 1, 2, 4, 6] rfl rfl rfl rfl (hfin h ?_))
    unfold hvV sC
    rw [if_pos hneg, ← sl_ne W (j := 2 * c) (k := 2 * c + 1) _ (by omega), sl_id]
    exact hr
  · refine ⟨fun c_ => ?_, fun c_ => absurd ((kGe0 hin).mpr (by omega)) c_⟩
    conv => whnf
    try simp only [nI_1]
    refine hK _ _ _ _ _ _ (Runs.less hc [0, 1, 2, 4, 6] rfl rfl rfl rfl (hfin h ?_))
    have e : (W.1 (2 * c)).set hh (gt (W.1 (2 * c)) hh) = W.1 (2 * c) := by
      refine gt_ext (List.length_set) fun q _ => ?_
      rw [gt_set hh1]
      split
      · rename_i h; rw [h]
      · rfl
    unfold hvV
    rw [if_neg hneg, e, sC_id]
    exact hr
end CUTLINE
