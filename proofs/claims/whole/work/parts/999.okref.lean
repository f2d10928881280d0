/-! THE REFERENCE'S NUMBERS STAY SMALL -/
abbrev B1 : Int := 29160000
abbrev B3 : Int := 78732000000
theorem bdV_inV {B : Int} {v : V3} (h : bdV B v) (hB : B < 9223372036854775808) : inV v := by
  obtain ⟨⟨h1, h2⟩, ⟨h3, h4⟩, ⟨h5, h6⟩⟩ := h
  exact ⟨⟨by omega, by omega⟩, ⟨by omega, by omega⟩, ⟨by omega, by omega⟩⟩
theorem bdI_inL {B a : Int} (h : bdI B a) (hB : B < 9223372036854775808) : inL a := by
  obtain ⟨h1, h2⟩ := h
  exact ⟨by omega, by omega⟩
theorem bdl2 {B C D E : Int} {v u : V3} {a b : Int} (ha : bdI B a) (hb : bdI C b) (hv : bdV D v) (hu : bdV E u) : bdV (B * D + C * E) (lin a b v u) := bdV_of fun j => by
  rw [cmp_lin]
  exact bdI_add (bd_mul_z ha (bdV_cmp hv j)) (bd_mul_z hb (bdV_cmp hu j))
theorem bdd3 {B C : Int} {u v : V3} (hu : bdV B u) (hv : bdV C v) : bdI (3 * (B * C)) (dot u v) := by
  have a := bd_mul_z hu.1 hv.1
  have b := bd_mul_z hu.2.1 hv.2.1
  have c := bd_mul_z hu.2.2 hv.2.2
  have := bdI_add (bdI_add a b) c
  rw [show B * C + B * C + B * C = 3 * (B * C) by omega] at this
  exact this
theorem prm_bd {B : Int} {v : V3} (h : bdV B v) : bdV B (prm v) := by
  by_cases c : v = O3
  · rw [c, prm_O]; rw [c] at h; exact h
  · obtain ⟨g, hg, e, _⟩ := prm_spec c
    exact bd_smd hg e h
theorem rct_bd {B : Int} {v : V3} (h : bdV B v) : bdV B (rctV v) := by
  unfold rctV
  split
  · exact bdV_neg h
  · exact h
theorem perp_bd {B : Int} {v : V3} (h : bdV B v) : bdV B (perpV v) := by
  obtain ⟨⟨h1, h2⟩, ⟨h3, h4⟩, ⟨h5, h6⟩⟩ := h
  exact ⟨⟨by show -B ≤ 0; omega, by show (0 : Int) ≤ B; omega⟩, ⟨by show -B ≤ -v.2.2; omega, by show -v.2.2 ≤ B; omega⟩, ⟨h3, h4⟩⟩
/-- along something small -/
theorem par_bd {B : Int} {d w : V3} (hd : gcd3 d = 1) (hw : w ≠ O3) (h : xp d w = O3) (hB : bdV B w) : bdV B d := by
  rcases (prm_par hw hd).mp h with q | q
  · rw [q]; exact prm_bd hB
  · rw [q]; exact bdV_neg (prm_bd hB)
theorem e0_bd {B : Int} (h : 1 ≤ B) : bdV B ((1, 0, 0) : V3) := ⟨⟨by show -B ≤ 1; omega, h⟩, ⟨by show -B ≤ 0; omega, by show (0 : Int) ≤ B; omega⟩, ⟨by show -B ≤ 0; omega, by show (0 : Int) ≤ B; omega⟩⟩
theorem sub_len {l m : List V3} (h : l.Nodup) (hs : ∀ x ∈ l, x ∈ m) : l.length ≤ m.length := by
  refine inj_le (R := fun e m => e = m) ?_ fun e he => ⟨e, hs e he, rfl⟩
  exact List.Pairwise.imp (fun hne m h1 h2 => hne (h1.trans h2.symm)) h
section DUAL
variable {l : List V3}
theorem dual_len (hl : l ≠ []) (h0 : ∀ v ∈ l, v ≠ O3) (hn : l.length < 900) : (dualF l).length ≤ 2 * l.length + 6 := by
  rcases dual_cases hl h0 with ⟨e, a, b, c, ha, hb, hc, hd⟩ | ⟨c, u, v, _, _, _, _, _, e⟩ | ⟨e, _⟩
  · obtain ⟨hI, hlen⟩ := cutA_all l
    have hL : (cutA (e3, []) l).1 = [] := by
      refine Classical.byContradiction fun q => ?_
      have hm := gt_mem (l := (cutA (e3, []) l).1) (i := 0) (List.length_pos_iff.mpr q)
      exact prim_ne (hI.2.1.2.1 _ hm) (d3_perp hd (hI.1.1 a ha _ hm) (hI.1.1 b hb _ hm) (hI.1.1 c hc _ hm))
    have hN : ∀ x, Ln (Ce (fun v => v ∈ l)) x → x.2.1 = 0 → x.2.2 = 0 → x = O3 := fun x hx _ _ => by
      have z : ∀ w ∈ l, dot w x = 0 := fun w hw => by
        have p := hx.1 w hw
        have q := hx.2 w hw
        rw [dot_neg'] at q
        omega
      exact d3_perp hd (z a ha) (z b hb) (z c hc)
    obtain ⟨m1, m2, m3, m4, m5, m6⟩ := hI.settled (by rw [hL]; simp) hN (by omega) (Du.of _)
    have hS : (stt (cutA (e3, []) l).1 (cutA (e3, []) l).2).1 = [] := List.length_eq_zero_iff.mp (by rw [m2, hL]; rfl)
    have := sub_len (dual_nd (l := l)) (m := (stt (cutA (e3, []) l).1 (cutA (e3, []) l).2).2.1) fun d hd' => by
      refine (m3 d).mpr ?_
      rw [hS]
      rw [e] at hd'
      rcases prs_to hd' with q | ⟨u, v, hu, hv, hx, hg, h1, hp⟩
      · exact absurd q List.not_mem_nil
      · have hs : ∀ w, w ∈ l → St (Ce fun v => v ∈ l) w := fun w hw x hx => hx w hw
        have k : ∀ w, dot w (xp u v) = 0 → dot w d = 0 := fun w hw => by
          have := par_dot (h := w) hx (b := d) (by rw [xp_anti, hp]; rfl) (by rw [dot_comm]; exact hw)
          rw [dot_comm]; exact this
        exact ⟨h1, good_Ce.mp hg, trivial, u, v, ⟨hs u hu, k u (dot_xp_l u v)⟩, ⟨hs v hv, k v (dot_xp_r u v)⟩, hx⟩
    omega
  · rw [e]
    have a := pls_len (l := l) (u := c) (t := l) (F := ofr l [] (prm c))
    have b := ofr_len_z (F := []) (l := l) (c := prm c)
    have : ([] : List V3).length = 0 := rfl
    omega
  · rw [e]
    unfold oneW
    refine Nat.le_trans ofr_len_z ?_
    refine Nat.le_trans (Nat.add_le_add_right ofr_len_z 2) ?_
    refine Nat.le_trans (Nat.add_le_add_right (Nat.add_le_add_right ofr_len_z 2) 2) ?_
    show 0 + 2 + 2 + 2 ≤ _
    omega
theorem dual_perp {u v d : V3} (hx : xp u v ≠ O3) (hp : xp d (xp u v) = O3) : dot u d = 0 ∧ dot v d = 0 := by
  have k : ∀ w, dot w (xp u v) = 0 → dot w d = 0 := fun w hw => by
    have := par_dot (h := w) hx (b := d) (by rw [xp_anti, hp]; rfl) (by rw [dot_comm]; exact hw)
    rw [dot_comm]; exact this
  exact ⟨k u (dot_xp_l u v), k v (dot_xp_r u v)⟩
/-- how large the dual's rows are; where they are in one plane, more is said -/
theorem dual_bd (hl : l ≠ []) (h0 : ∀ v ∈ l, v ≠ O3) (hb : ∀ v ∈ l, bdV 2700 v) :
    ((∀ d ∈ dualF l, bdV 14580000 d) ∧ ((∃ a b c, a ∈ l ∧ b ∈ l ∧ c ∈ l ∧ d3 a b c ≠ 0) ∨ ∀ d ∈ dualF l, bdV 2700 d)) ∨
    (∃ c u v, u ∈ l ∧ v ∈ l ∧ xp u v ≠ O3 ∧ gcd3 c = 1 ∧ (∀ w ∈ l, dot c w = 0) ∧ c ∈ dualF l ∧ bdV 14580000 c ∧ (((1, 0, 0) : V3) ∈ l → bdV 5400 c) ∧ ∀ d ∈ dualF l, xp d c = O3 ∨ ∃ w, w ∈ l ∧ dot w d = 0 ∧ dot c d = 0 ∧ xp c w ≠ O3) := by
  rcases dual_cases hl h0 with ⟨e, q⟩ | ⟨c, u, v, hu, hv, hx, hc, hz, e⟩ | ⟨e, hp⟩
  · refine Or.inl ⟨fun d hd => ?_, Or.inl q⟩
    rw [e] at hd
    rcases prs_to hd with q | ⟨u, v, hu, hv, hx, hg, h1, hp⟩
    · exact absurd q List.not_mem_nil
    · obtain ⟨k1, k2⟩ := dual_perp hx hp
      exact prim_bd h1 k1 k2 hx (bdV_mono (by decide) (bd_xp_z (hb u hu) (hb v hv)))
  · obtain ⟨g, hg, ee, h1⟩ := prm_spec hx
    rw [← hc] at ee h1
    have c0 := prim_ne h1
    have cu : dot u c = 0 := by rw [dot_comm]; exact hz u hu
    have cv : dot v c = 0 := by rw [dot_comm]; exact hz v hv
    refine Or.inr ⟨c, u, v, hu, hv, hx, h1, hz, ?_, prim_bd h1 cu cv hx (bdV_mono (by decide) (bd_xp_z (hb u hu) (hb v hv))), fun he => ?_, fun d hd => ?_⟩
    · rw [e, pls_mem]
      refine Or.inl ((ofr_mem_z c0).mpr (Or.inr ⟨good_iff.mpr fun w hw => by rw [hz w hw]; omega, h1, xp_self c⟩))
    · have : ∃ w, w ∈ l ∧ xp (1, 0, 0) w ≠ O3 := by
        refine Classical.byContradiction fun hn => hx (par_trans (l := (1, 0, 0)) (by simp) ?_ ?_)
        · exact Classical.byContradiction fun q => hn ⟨u, hu, q⟩
        · exact Classical.byContradiction fun q => hn ⟨v, hv, q⟩
      obtain ⟨w, hw, hxw⟩ := this
      exact prim_bd h1 (by rw [dot_comm]; exact hz _ he) (by rw [dot_comm]; exact hz w hw) hxw (bdV_mono (by decide) (bd_xp_z (e0_bd (B := 1) (by omega)) (hb w hw)))
    · rw [e, pls_mem] at hd
      rcases hd with q | ⟨w, hw, hxw, _, _, hp⟩
      · rcases (ofr_mem_z c0).mp q with q | q
        · exact absurd q List.not_mem_nil
        · exact Or.inl q.2.2
      · obtain ⟨k1, k2⟩ := dual_perp hxw hp
        exact Or.inr ⟨w, hw, k2, k1, hxw⟩
  · have hm := gt_mem (l := l) (i := 0) (List.length_pos_iff.mpr hl)
    have u0 := h0 _ hm
    have ub := hb _ hm
    have z0 : bdI 2700 0 := ⟨by decide, by decide⟩
    have key : ∀ d ∈ dualF l, bdV 2700 d := fun d hd => by
      rw [e] at hd
      obtain ⟨_, h1, q⟩ := (oneW_mem u0 rfl).mp hd
      obtain ⟨p, q', e1, e2, p0, q0, _⟩ := one1 u0
      rw [e1, e2] at q
      have pb : bdV 2700 p := by
        rw [← e1]
        obtain ⟨⟨a1, a2⟩, ⟨a3, a4⟩, ⟨a5, a6⟩⟩ := ub
        split
        · exact e0_bd (by omega)
        · exact ⟨⟨by show -2700 ≤ -(gt l 0).2.1; omega, by show -(gt l 0).2.1 ≤ 2700; omega⟩, ⟨a1, a2⟩, z0⟩
      have qb : bdV 2700 q' := by
        rw [← e2]
        obtain ⟨⟨a1, a2⟩, ⟨a3, a4⟩, ⟨a5, a6⟩⟩ := ub
        split
        · exact ⟨z0, ⟨by show -2700 ≤ -(gt l 0).2.2; omega, by show -(gt l 0).2.2 ≤ 2700; omega⟩, ⟨a3, a4⟩⟩
        · exact ⟨⟨by show -2700 ≤ -(gt l 0).2.2; omega, by show -(gt l 0).2.2 ≤ 2700; omega⟩, z0, ⟨a1, a2⟩⟩
      rcases q with q | q | q
      · exact par_bd h1 p0 q pb
      · exact par_bd h1 q0 q qb
      · exact par_bd h1 u0 q ub
    exact Or.inl ⟨fun d hd => bdV_mono (by decide) (key d hd), Or.inr key⟩
end DUAL
