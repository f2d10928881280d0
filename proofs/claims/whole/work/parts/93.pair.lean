/-! PAIRS OF CONES, each the other's dual -/
def Ln (S : V3 → Prop) (x : V3) : Prop := S x ∧ S (neg3 x)
def St (S : V3 → Prop) (y : V3) : Prop := ∀ x, S x → 0 ≤ dot y x
def Du (S T : V3 → Prop) : Prop := (∀ x, S x ↔ St T x) ∧ ∀ y, T y ↔ St S y
theorem Du.symm {S T : V3 → Prop} (h : Du S T) : Du T S := ⟨h.2, h.1⟩
theorem Du.nn {S T : V3 → Prop} (h : Du S T) {x y : V3} (hx : S x) (hy : T y) : 0 ≤ dot y x := (h.2 y).mp hy x hx
theorem Du.of (A : V3 → Prop) : Du (Ce A) (St (Ce A)) := ⟨fun x => ⟨fun h y hy => by rw [dot_comm]; exact hy x h, fun h a ha => by rw [dot_comm]; exact h a (fun z hz => hz a ha)⟩, fun _ => Iff.rfl⟩
theorem Du.ln {S T : V3 → Prop} (h : Du S T) {x y : V3} (hx : Ln S x) (hy : T y) : dot y x = 0 := by
  have h1 := h.nn hx.1 hy
  have h2 := h.nn hx.2 hy
  rw [dot_neg'] at h2
  omega
theorem Du.ln_iff {S T : V3 → Prop} (h : Du S T) {x : V3} : Ln S x ↔ ∀ y, T y → dot y x = 0 := by
  refine ⟨fun hx y hy => h.ln hx hy, fun hx => ⟨(h.1 x).mpr fun y hy => ?_, (h.1 _).mpr fun y hy => ?_⟩⟩
  · rw [dot_comm, hx y hy]; omega
  · rw [dot_comm, dot_neg', hx y hy]; omega
theorem Canon.congr {P Q : V3 → Prop} (h : ∀ x, P x ↔ Q x) : ∀ {L : List V3}, Canon P L → Canon Q L
  | [], c => fun x q => c x ((h x).mpr q)
  | [_], ⟨c1, c2, c3⟩ => ⟨c1, c2, fun x => (h x).symm.trans (c3 x)⟩
  | [_, _], ⟨c1, c2, c3, c4, c5, c6, c7⟩ => ⟨c1, c2, c3, c4, c5, c6, fun x => (h x).symm.trans (c7 x)⟩
  | _ :: _ :: _ :: _, c => c
theorem colz {a l : V3} : ∀ {j : Nat}, j < 3 → dot a l = 0 → (∀ c, c < 3 → c ≠ j → cmp3 l c = 0) → cmp3 l j ≠ 0 → cmp3 a j = 0
  | 0, _, h, hz, hn => by
    have h1 : l.2.1 = 0 := hz 1 (by omega) (by omega)
    have h2 : l.2.2 = 0 := hz 2 (by omega) (by omega)
    unfold dot at h
    rw [h1, h2] at h
    exact (Int.mul_eq_zero.mp (show a.1 * l.1 = 0 by omega)).resolve_right hn
  | 1, _, h, hz, hn => by
    have h1 : l.1 = 0 := hz 0 (by omega) (by omega)
    have h2 : l.2.2 = 0 := hz 2 (by omega) (by omega)
    unfold dot at h
    rw [h1, h2] at h
    exact (Int.mul_eq_zero.mp (show a.2.1 * l.2.1 = 0 by omega)).resolve_right hn
  | 2, _, h, hz, hn => by
    have h1 : l.1 = 0 := hz 0 (by omega) (by omega)
    have h2 : l.2.1 = 0 := hz 1 (by omega) (by omega)
    unfold dot at h
    rw [h1, h2] at h
    exact (Int.mul_eq_zero.mp (show a.2.2 * l.2.2 = 0 by omega)).resolve_right hn
theorem mem_rowsC {L E : List V3} {v : V3} : v ∈ rowsC L E ↔ (∃ l, l ∈ L ∧ (v = l ∨ v = neg3 l)) ∨ v ∈ E := by
  unfold rowsC rowsL
  simp only [List.mem_append, List.mem_flatMap, List.mem_cons, List.not_mem_nil, or_false]
section PAIR
variable {A T : V3 → Prop} {L E : List V3}
theorem Inv_z.le2 (h : Inv_z A L E) {a : V3} (ha : A a) (h0 : a ≠ O3) : L.length ≤ 2 := by
  obtain ⟨⟨a1, a2, _, _⟩, _, ⟨J, c1, c2, _⟩, _⟩ := h
  refine Classical.byContradiction fun hn => h0 ?_
  have h3 : L.length = 3 := by omega
  have dj : ∀ i k, i < 3 → k < 3 → i ≠ k → J i ≠ J k := fun i k hi hk hik q => (c1 i (by omega)).2 (by rw [q]; exact c2 i k (by omega) (by omega) hik)
  have j0 := (c1 0 (by omega)).1
  have j1 := (c1 1 (by omega)).1
  have j2 := (c1 2 (by omega)).1
  have d01 := dj 0 1 (by omega) (by omega) (by omega)
  have d02 := dj 0 2 (by omega) (by omega) (by omega)
  have d12 := dj 1 2 (by omega) (by omega) (by omega)
  have cov : ∀ c, c < 3 → ∃ i, i < 3 ∧ J i = c := fun c hc => by
    by_cases q0 : J 0 = c
    · exact ⟨0, by omega, q0⟩
    · by_cases q1 : J 1 = c
      · exact ⟨1, by omega, q1⟩
      · exact ⟨2, by omega, by omega⟩
  have z : ∀ i, i < 3 → cmp3 a (J i) = 0 := fun i hi => by
    refine colz (c1 i (by omega)).1 (a1 a ha (gt L i) (gt_mem (by omega))) (fun c hc hne => ?_) (c1 i (by omega)).2
    obtain ⟨k, hk, rfl⟩ := cov c hc
    exact c2 i k (by omega) (by omega) (fun q => hne (by rw [q]))
  refine cmp_ext fun c hc => ?_
  obtain ⟨i, hi, rfl⟩ := cov c hc
  rw [z i hi, cmp_O]
/-- what is 0 on all rows is made of the lines -/
theorem Inv_z.perp (h : Inv_z A L E) (hl : L.length ≤ 2) {x : V3} (hx : ∀ a, A a → dot a x = 0) : Hl L [] x := by
  obtain ⟨s1, s2, _⟩ := h.span hl
  obtain ⟨⟨a1, _, a3, _⟩, _⟩ := h
  match L, hl, s1, s2, a1, a3 with
  | [], _, _, _, _, a3 =>
    obtain ⟨a, b, c, ha, hb, hc, hd⟩ := a3
    have e := cramer (xp b c) (xp c a) (xp a b) x
    have : x = O3 := by
      have e1 := hx a ha
      have e2 := hx b hb
      have e3 := hx c hc
      have k : ∀ i, dot (un i) x * d3 a b c = 0 := fun i => by
        have : dot (un i) x * d3 a b c = dot (xp b c) (un i) * dot a x + dot (xp c a) (un i) * dot b x + dot (xp a b) (un i) * dot c x := by
          unfold d3 dot xp; grind
        rw [this, e1, e2, e3]; simp
      refine cmp_ext fun c _ => ?_
      have := (Int.mul_eq_zero.mp (k c)).resolve_right hd
      rw [dot_un] at this
      rw [this, cmp_O]
    rw [this]; exact Hl.zero
  | [l], _, s1, _, a1, a3 =>
    obtain ⟨a, b, ha, hb, hd⟩ := a3
    have e := par_sm (perp2 (a := l) (b := x) (by rw [dot_comm]; exact a1 a ha l (by simp)) (by rw [dot_comm]; exact a1 b hb l (by simp)) (by rw [dot_comm]; exact hx a ha) (by rw [dot_comm]; exact hx b hb) hd)
    exact Hl.sat (dd_ne (prim_ne (s1 l (by simp)))) (by rw [e]; exact Hl.line (by simp) _)
  | [l, m], _, s1, s2, a1, a3 =>
    obtain ⟨a, ha, h0⟩ := a3
    have hn := s2 l m rfl
    have hz : d3 l m x = 0 := by
      have q := perp2 (a := a) (b := xp l m) (u := l) (v := m) (a1 a ha l (by simp)) (a1 a ha m (by simp)) (by rw [dot_comm]; exact dot_xp_l l m) (by rw [dot_comm]; exact dot_xp_r l m) hn
      rw [d3_xp]
      exact par_dot h0 q (hx a ha)
    have e := cramer l m (xp l m) x
    rw [hz, sm_0, ad_O] at e
    refine Hl.sat (k := d3 l m (xp l m)) (by rw [d3_xp]; exact dd_ne hn) ?_
    rw [e]
    exact Hl.add (Hl.line (by simp) _) (Hl.line (by simp) _)
theorem Inv_z.ln (h : Inv_z A L E) (hl : L.length ≤ 2) {x : V3} : Ln (Ce A) x ↔ Hl L [] x := by
  constructor
  · intro hx
    refine h.perp hl fun a ha => ?_
    have h1 := hx.1 a ha
    have h2 := hx.2 a ha
    rw [dot_neg'] at h2
    omega
  · intro hx
    have z : ∀ a, A a → dot a x = 0 := fun a ha => hx.z (fun l hl => h.1.1 a ha l hl) (fun _ q => absurd q List.not_mem_nil)
    exact ⟨fun a ha => by rw [z a ha]; omega, fun a ha => by rw [dot_neg', z a ha]; omega⟩
/-- the settled rows of a cone of a pair -/
theorem Inv_z.settled (h : Inv_z A L E) (hl : L.length ≤ 2) (hN : ∀ x, Ln (Ce A) x → x.2.1 = 0 → x.2.2 = 0 → x = O3) (hEl : E.length < 1000) (hD : Du (Ce A) T) :
    Canon (Ln (Ce A)) (stt L E).1 ∧ (stt L E).1.length = L.length ∧ (∀ v, v ∈ (stt L E).2.1 ↔ Sem (Ce A) T (stt L E).1 v) ∧ (stt L E).2.1.Nodup ∧ (stt L E).2.1.length = E.length ∧ ∀ y, Ce (fun v => v ∈ rowsC (stt L E).1 (stt L E).2.1) y ↔ T y := by
  have hNP : NP L := fun x hx => hN x ((h.ln hl).mpr hx)
  have hAT : ∀ a, A a → T a := fun a ha => (hD.2 a).mpr fun x hx => hx a ha
  obtain ⟨m1, m2, m3, m4⟩ := settle_mem h hl hNP hEl hAT (fun y hy x hx => hD.nn hx hy)
  have hle : (stt L E).2.1.length = E.length := by
    obtain ⟨s1, s2, s3⟩ := h.span hl
    obtain ⟨_, _, f, hE', _⟩ := settle_spec hl s1 s2 s3 hEl hNP
    rw [hE', List.length_map]
  refine ⟨m1.congr fun x => (h.ln hl).symm, m2, m3, m4, hle, fun y => ⟨fun hy => (hD.2 y).mpr fun x hx => ?_, fun hy v hv => ?_⟩⟩
  · obtain ⟨s1, s2, s3⟩ := h.span hl
    obtain ⟨hC, hlen, f, hE', hf⟩ := settle_spec hl s1 s2 s3 hEl hNP
    have hL0 : ∀ l ∈ (stt L E).1, dot y l = 0 := fun l hl' => by
      have h1 := hy l (mem_rowsC.mpr (Or.inl ⟨_, hl', Or.inl rfl⟩))
      have h2 := hy (neg3 l) (mem_rowsC.mpr (Or.inl ⟨_, hl', Or.inr rfl⟩))
      rw [dot_comm] at h1 h2
      rw [dot_neg'] at h2
      omega
    -- what the settled lines span
    have hsp : ∀ x, Hl L [] x → dot y x = 0 := by
      intro x hx
      match hS : (stt L E).1, hC, hL0 with
      | [], hC, _ => rw [hC x hx, dot_0]
      | [l], ⟨c1, c2, c3⟩, hL0 =>
        have := par_dot (h := y) (prim_ne c1) ((c3 x).mp hx) (by rw [dot_comm]; exact hL0 l (by simp))
        rw [dot_comm]; exact this
      | [l, m], ⟨c1, c2, c3, c4, c5, c6, c7⟩, hL0 =>
        have e := cramer l m (xp l m) x
        rw [(c7 x).mp hx, sm_0, ad_O] at e
        have hn : 0 < d3 l m (xp l m) := by
          rw [d3_xp]
          refine dd_ne fun q => ?_
          have q1 := congrArg (fun v : V3 => v.1) q
          have q1 : l.2.1 * m.2.2 - l.2.2 * m.2.1 = 0 := q1
          have := Int.mul_pos c3 c6
          rw [c4, c5] at q1
          omega
        have e2 := congrArg (dot y) e
        rw [dot_sm, dot_ad, dot_sm, dot_sm, hL0 l (by simp), hL0 m (by simp)] at e2
        rw [Int.mul_zero, Int.mul_zero, Int.add_zero] at e2
        exact (Int.mul_eq_zero.mp e2).resolve_left (by omega)
      | _ :: _ :: _ :: _, hC, _ => exact absurd hC id
    refine (h.1.2.2.2 x hx).nn (fun l hl' => hsp l (by have := Hl.line (E := []) hl' 1; rw [sm_1] at this; exact this)) (fun e he => ?_)
    obtain ⟨_, _, g, p, hg, hp, hx⟩ := hf e he
    have z := hsp _ hx
    rw [dot_ad, dot_sm, dot_sm] at z
    have h1 := hy (f e) (by unfold rowsC; refine List.mem_append_right _ ?_; rw [hE']; exact List.mem_map_of_mem he)
    rw [dot_comm] at h1
    have h2 := Int.mul_nonneg (show 0 ≤ g by omega) h1
    rw [Int.neg_mul] at z
    refine Classical.byContradiction fun hn => ?_
    have := Int.mul_neg_of_pos_of_neg hp (show dot y e < 0 by omega)
    omega
  · have hm : Ce A v ∨ Ln (Ce A) v ∨ Ln (Ce A) (neg3 v) := by
      have hv := mem_rowsC.mp hv
      have cl : ∀ l ∈ (stt L E).1, Hl L [] l := by
        intro l hl'
        match hS : (stt L E).1, m1, hl' with
        | [l'], ⟨c1, c2, c3⟩, hl' => rw [List.mem_singleton.mp hl']; exact (c3 l').mpr (xp_self l')
        | [l', m'], ⟨c1, c2, c3, c4, c5, c6, c7⟩, hl' =>
          rcases List.mem_cons.mp hl' with rfl | q
          · exact (c7 _).mpr (by unfold d3 dot xp; grind)
          · rw [List.mem_singleton.mp q]; exact (c7 _).mpr (by unfold d3 dot xp; grind)
        | _ :: _ :: _ :: _, hC, _ => exact absurd hC id
      rcases hv with ⟨l, hl', rfl | rfl⟩ | hv
      · exact Or.inr (Or.inl ((h.ln hl).mpr (cl _ hl')))
      · exact Or.inr (Or.inr ((h.ln hl).mpr (by rw [neg_neg3_z]; exact cl _ hl')))
      · exact Or.inl ((m3 v).mp hv).2.1
    have : Ce A v := by
      rcases hm with q | q | q
      · exact q
      · exact q.1
      · have := q.2; rw [neg_neg3_z] at this; exact this
    rw [dot_comm]
    exact hD.nn this hy
end PAIR
