/-! CLASS AND REFERENCE AGREE -/
/-- a slot's rows, the class's from the reference's -/
def shO (t : Nat → List V3) : SH := ((t 0, t 1), (t 2, t 3 ++ t 4))
/-- what a slot's rows keep -/
def Rok (t : Nat → List V3) : Prop := (∀ k, k < 5 → ∀ v ∈ t k, bdV 30 v ∧ v ≠ O3) ∧ (t 0).length ≤ 2 ∧ (t 1).length ≤ 12 ∧ (t 2).length ≤ 2 ∧ (t 3).length + (t 4).length ≤ 12 ∧ (∀ v ∈ t 2, v.1 = 0) ∧ (∀ v ∈ t 3, v.1 = 0) ∧ (∀ v ∈ t 4, 0 < v.1) ∧ (t 4 = [] → ∀ k, k < 5 → t k = [])
def srM (M : Nat → List V3) (k : Nat) : List V3 := srd k (M k)
def clsF (M : Nat → List V3) : Nat ⊕ SH := if fltF M = 1 then .inl 3 else if fltF M = 2 then .inl 2 else .inr (shO (srM M))
theorem perm_of {l m : List V3} (h1 : l.Nodup) (h2 : m.Nodup) (h : ∀ v, v ∈ l ↔ v ∈ m) : l.Perm m := (List.perm_ext_iff_of_nodup h1 h2).mpr h
theorem ok3_b : ok3B = b30 := rfl
theorem fin4_eq {S T : V3 → Prop} {k1 k2 g1 g2 : List V3} {M : Nat → List V3} (hR : Rws S T k1 k2 g1 g2) (hM : Rws S T (M 0) (M 1) (M 2) (M 3 ++ M 4)) (w3 : ∀ v ∈ M 3, v.1 = 0) (w4 : ∀ v ∈ M 4, 0 < v.1) : fin4 k1 k2 g1 g2 = clsF M := by
  obtain ⟨a1, a2, a3, a4, a5, a6⟩ := hR
  obtain ⟨b1, b2, b3, b4, b5, b6⟩ := hM
  have e1 := Canon.uni a1 b1
  have e4 := Canon.uni a4 b4
  subst e1
  subst e4
  have p2 : k2.Perm (M 1) := perm_of a2 b2 fun v => by rw [a3, b3]
  have p5 : g2.Perm (M 3 ++ M 4) := perm_of a5 b5 fun v => by rw [a6, b6]
  have s1 : sortE 0 k2 = sortK 1 (M 1) := sort_K p2
  have s2 : sortE 1 g2 = sortK 3 (M 3) ++ sortK 4 (M 4) := sort_G p5 (fun v hv => ((a6 v).mp hv).1) w3 w4
  have q1 : smB (M 0, k2) = ((M 0).all b30 && (M 1).all b30) := by unfold smB; rw [ok3_b, p2.all_eq]
  have q2 : smB (M 2, g2) = ((M 2).all b30 && ((M 3).all b30 && (M 4).all b30)) := by unfold smB; rw [ok3_b, p5.all_eq, List.all_append]
  have l1 := p2.length_eq
  have l2 := p5.length_eq
  rw [List.length_append] at l2
  unfold fin4 clsF fltF big5 shO srM
  rw [q1, q2, s1, s2, l1, l2]
  generalize (M 0).all b30 = x0
  generalize (M 1).all b30 = x1
  generalize (M 2).all b30 = x2
  generalize (M 3).all b30 = x3
  generalize (M 4).all b30 = x4
  by_cases c : 12 < (M 1).length ∨ 12 < (M 3).length + (M 4).length
  · cases x0 <;> cases x1 <;> cases x2 <;> cases x3 <;> cases x4 <;> simp [c]
  · cases x0 <;> cases x1 <;> cases x2 <;> cases x3 <;> cases x4 <;> simp [c, srd]
theorem srd_perm (k : Nat) (l : List V3) : (srd k l).Perm l := by
  unfold srd
  split
  · exact sortK_perm k l
  · exact List.Perm.refl _
theorem b30_bd {v : V3} (h : b30 v = true) : bdV 30 v := by
  unfold b30 at h
  have h := of_decide_eq_true h
  exact ⟨h.1, h.2.1, h.2.2⟩
theorem flt0 {M : Nat → List V3} (h : fltF M = 0) : (∀ k, k < 5 → ∀ v ∈ M k, bdV 30 v) ∧ (M 1).length ≤ 12 ∧ (M 3).length + (M 4).length ≤ 12 := by
  unfold fltF at h
  split at h
  · cases h
  · rename_i c
    split at h
    · cases h
    · rename_i d
      refine ⟨fun k hk v hv => b30_bd ?_, by omega, by omega⟩
      unfold big5 at c
      simp only [Bool.not_eq_true, Bool.not_eq_false', Bool.and_eq_true] at c
      obtain ⟨c0, c1, c2, c3, c4⟩ := c
      match k, hk, hv with
      | 0, _, hv => exact List.all_eq_true.mp c0 v hv
      | 1, _, hv => exact List.all_eq_true.mp c1 v hv
      | 2, _, hv => exact List.all_eq_true.mp c2 v hv
      | 3, _, hv => exact List.all_eq_true.mp c3 v hv
      | 4, _, hv => exact List.all_eq_true.mp c4 v hv
theorem flt_3 (M : Nat → List V3) : fltF M = 0 ∨ fltF M = 1 ∨ fltF M = 2 := by
  unfold fltF
  split
  · exact Or.inr (Or.inl rfl)
  · split
    · exact Or.inr (Or.inr rfl)
    · exact Or.inl rfl
/-- rows that are stored keep what rows keep -/
theorem Rok.of {S T : V3 → Prop} {M : Nat → List V3} (hM : Rws S T (M 0) (M 1) (M 2) (M 3 ++ M 4)) (w3 : ∀ v ∈ M 3, v.1 = 0) (w4 : ∀ v ∈ M 4, 0 < v.1) (h2 : ∀ x, Ln S x → x.1 = 0) (hp : ∃ v, v ∈ M 3 ++ M 4 ∧ v.1 ≠ 0) (h0 : fltF M = 0) : Rok (srM M) := by
  obtain ⟨f1, f2, f3⟩ := flt0 h0
  obtain ⟨b1, b2, b3, b4, b5, b6⟩ := hM
  have mem : ∀ k v, v ∈ srM M k ↔ v ∈ M k := fun k v => (srd_perm k (M k)).mem_iff
  have len : ∀ k, (srM M k).length = (M k).length := fun k => (srd_perm k (M k)).length_eq
  have cn : ∀ {P : V3 → Prop} {L : List V3}, Canon P L → ∀ l ∈ L, l ≠ O3 := by
    intro P L hC l hl
    match L, hC, hl with
    | [l'], ⟨c1, _⟩, hl => rw [List.mem_singleton.mp hl]; exact prim_ne c1
    | [l', m'], ⟨c1, c2, _⟩, hl =>
      rcases List.mem_cons.mp hl with rfl | q
      · exact prim_ne c1
      · rw [List.mem_singleton.mp q]; exact prim_ne c2
    | _ :: _ :: _ :: _, hC, _ => exact absurd hC id
  refine ⟨fun k hk v hv => ⟨f1 k hk v ((mem k v).mp hv), ?_⟩, by rw [len]; exact b1.len, by rw [len]; exact f2, by rw [len]; exact b4.len, by rw [len, len]; exact f3, fun v hv => h2 v (canon_mem b4 v ((mem 2 v).mp hv)), fun v hv => w3 v ((mem 3 v).mp hv), fun v hv => w4 v ((mem 4 v).mp hv), fun h4 => ?_⟩
  · have hv := (mem k v).mp hv
    match k, hk, hv with
    | 0, _, hv => exact cn b1 v hv
    | 1, _, hv => exact prim_ne ((b3 v).mp hv).1.1
    | 2, _, hv => exact cn b4 v hv
    | 3, _, hv => exact prim_ne ((b6 v).mp (List.mem_append_left _ hv)).1
    | 4, _, hv => exact prim_ne ((b6 v).mp (List.mem_append_right _ hv)).1
  · obtain ⟨v, hv, v0⟩ := hp
    rcases List.mem_append.mp hv with q | q
    · exact absurd (w3 v q) v0
    · have := (mem 4 v).mpr q
      rw [h4] at this
      exact absurd this List.not_mem_nil
theorem Rok.nil : Rok (srM nil5) := by
  have e : ∀ k, srM nil5 k = [] := fun k => by
    have := (srd_perm k (nil5 k)).length_eq
    exact List.length_eq_zero_iff.mp this
  refine ⟨fun k _ v hv => ?_, by rw [e]; simp, by rw [e]; simp, by rw [e]; simp, by rw [e, e]; simp, fun v hv => ?_, fun v hv => ?_, fun v hv => ?_, fun _ k _ => e k⟩ <;> (rw [e] at hv; exact absurd hv List.not_mem_nil)
/-- what constraints give: class and reference -/
theorem agC {C as : List V3} (h0 : ∀ k ∈ C, k ≠ O3) (hC : C.length < 600) (hd : (dualF (C ++ [(1, 0, 0)])).length < 900) (he : ((1, 0, 0) : V3) ∈ as) (hl : as.length < 900) (hS : ∀ x, Ce (fun v => v ∈ as) x ↔ SC C x) :
    finG (cutA (e3, []) as) = clsF (ofC C) ∧ (fltF (ofC C) = 0 → Rok (srM (ofC C))) := by
  have hS : Ce (fun v => v ∈ as) = SC C := funext fun x => propext (hS x)
  unfold ofC
  by_cases hp : hpB (dualF (C ++ [(1, 0, 0)])) = true
  · rw [if_pos hp]
    have hPr := Pr.ofC h0 hp
    obtain ⟨r1, r2, r3⟩ := hPr.settle hd rfl
    obtain ⟨p, hpG, p0⟩ := hPr.2.2.2.2
    obtain ⟨k1, k2, g1, g2, q1, q2⟩ := finG_yes (T := TG (dualF (C ++ [(1, 0, 0)]))) he hl (by rw [hS]; exact hPr.du) (p := p) (by rw [hS]; exact hPr.2.2.1 p hpG) p0
    rw [hS] at q1
    refine ⟨by rw [q2]; exact fin4_eq q1 r1 r2 r3, fun hf => Rok.of r1 r2 r3 (fun x hx => ?_) (hPr.pt4 (by omega) r1) hf⟩
    have := hPr.du.ln hx hPr.e0
    rw [dot_e0] at this
    exact this
  · rw [if_neg hp]
    refine ⟨?_, fun _ => Rok.nil⟩
    rw [finG_no he hl (by rw [hS]; exact noC h0 hp)]
    rfl
/-- what generators give: class and reference -/
theorem agG {G as : List V3} (h0 : ∀ g ∈ G, g ≠ O3) (hw : ∀ g ∈ G, 0 ≤ g.1) (hG : G.length < 900) (hd : (dualF G).length < 600) (hp : ∃ g, g ∈ G ∧ 0 < g.1) (hl : as.length < 900) (hS : ∀ v, v ≠ O3 → (v ∈ as ↔ v ∈ G)) :
    finK (cutA (e3, []) as) = clsF (ofG G) ∧ (fltF (ofG G) = 0 → Rok (srM (ofG G))) := by
  have hS' : Ce (fun v => v ∈ as) = TG G := funext fun x => propext ⟨fun h g hg => h g ((hS g (h0 g hg)).mpr hg), fun h v hv => by
    by_cases c : v = O3
    · rw [c, dot_comm, dot_0]; omega
    · exact h v ((hS v c).mp hv)⟩
  unfold ofG
  have hpB' : hpB G = true := by
    obtain ⟨p, hpG, p0⟩ := hp
    exact List.any_eq_true.mpr ⟨p, hpG, decide_eq_true p0⟩
  rw [if_pos hpB']
  have hPr := Pr.ofG h0 hw hpB'
  obtain ⟨r1, r2, r3⟩ := hPr.settle hG rfl
  obtain ⟨p, hpG, p0⟩ := hp
  obtain ⟨k1, k2, g1, g2, q1, q2⟩ := finK_yes (as := as) (S := SC (dualF G)) hl (by rw [hS']; exact hPr.du) (fun v hv => by
    by_cases c : v = O3
    · rw [c]; exact Int.le_refl _
    · exact hw v ((hS v c).mp hv)) (p := p) ((hS p (h0 p hpG)).mpr hpG) p0
  rw [hS'] at q1
  refine ⟨by rw [q2]; exact fin4_eq q1 r1 r2 r3, fun hf => Rok.of r1 r2 r3 (fun x hx => ?_) (hPr.pt4 (by omega) r1) hf⟩
  have := hPr.du.ln hx hPr.e0
  rw [dot_e0] at this
  exact this
