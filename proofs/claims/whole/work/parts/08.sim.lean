def AB (B : Nat) : Nat → Prop := fun q => B ≤ q
def tyC (cy : Nat → ClassId) : List (ClassId × FieldType) := [(cy 0, .int), (cy 1, .long), (cy 2, .boolean), (cy 3, .object RX2)]
def nestW : Cond := .methodLinkNest RX1 25 yX3_commonDivisor "ConvexDesk"
def dclL : List MethodName := [⟨"java/lang/RuntimeException", "<init>", "(Ljava/lang/String;)V"⟩, ⟨"java/lang/Exception", "<init>", "(Ljava/lang/String;)V"⟩, ⟨"java/lang/Throwable", "<init>", "(Ljava/lang/String;)V"⟩]
/-- what the tables say beside the words that keep themselves -/
def VMf (dC : Nat → ClassId) (dI : Nat → Nat → Nat) (cy : Nat → ClassId) (sa : Nat → Nat) (U : State) : Prop :=
  va_K (dC, dI) vwCl (tyC cy) U ∧ (∀ q ∈ strL, vk_R RX3 q.1 q.2 (sa q.1) U) ∧ va_Nw nestW U ∧ (∀ E ∈ exN, ∀ F ∈ exN, E ≠ F → va_Nc E F U) ∧ va_AO RX2 U ∧ (∀ E ∈ exN, va_Nw (.castable E E) U) ∧ (∀ x ∈ dclL, va_Nw (.declares x) U)
theorem VMf.warm {dC : Nat → ClassId} {dI : Nat → Nat → Nat} {cy : Nat → ClassId} {sa : Nat → Nat} {s U : State} (hW : s.WarmedH U.vm) (h : VMf dC dI cy sa s) : VMf dC dI cy sa U := by
  obtain ⟨h1, h2, h3, h4, h5, h6, h7⟩ := h
  exact ⟨va_K.moved hW.alike h1, fun q hq => vk_R.warm hW (h2 q hq), va_Nw.warmM hW h3, fun E hE F hF hn => va_Nc.moved hW.alike (h4 E hE F hF hn), va_AO.moved hW.alike h5, fun E hE => va_Nw.warmC hW (h6 E hE), fun x hx => va_Nw.warmD hW (h7 x hx)⟩
/-- what old cells hold -/
def HPf (B b : Nat) (sc : Scr) (U : State) (H : Heap) : Prop :=
  vx_Zq Bundle.tN "UNASSIGNED_STACK" Bundle.steD (AB B) U H ∧ vx_Zq Bundle.tN "SUPPRESSED_SENTINEL" Bundle.listD (AB B) U H ∧ va_X b sc.1 sc.2 U H ∧ b < B ∧ B ≤ H.size
theorem HPf.keep {B b : Nat} {sc : Scr} {s U : State} {H : Heap} {locs : List Loc} (h : HPf B b sc s s.heap) (hS : va_S (AB B) s.heap H locs) (hvm : s.vm.Alike U.vm) : HPf B b sc U H := by
  obtain ⟨h1, h2, h3, h4, h5⟩ := h
  exact ⟨vx_Zq.moved hvm (h1.kept hS.2.1), vx_Zq.moved hvm (h2.kept hS.2.1), va_X.moved hvm (h3.kept (hS.2.1 b (Nat.lt_of_lt_of_le h4 h5) (Nat.not_le.mpr h4))), h4, Nat.le_trans h5 hS.1⟩
theorem HPf.blind {B b : Nat} {sc : Scr} {U U' : State} (hvm : U.vm = U'.vm) (hh : U.heap = U'.heap) (h : HPf B b sc U U.heap) : HPf B b sc U' U'.heap := by
  have hS : va_S (AB B) U.heap U'.heap [] := by rw [hh]; exact va_S.rf
  exact h.keep hS (by rw [hvm]; exact Vm.Alike.refl _)
def GW : List Cond := lw_tbl.filter goodWord
def wsM (mi : MI) : List Cond := codeW mi :: GW
def rmM (D : Nat) (mi : MI) : Room := { frames := D, cells := mMc mi, slots := mMs mi, locals := 38 * D }
def PcM (dC : Nat → ClassId) (dI : Nat → Nat → Nat) (cy : Nat → ClassId) (sa : Nat → Nat) (B b : Nat) (sc : Scr) (ad : Nat → Nat) (as : List Value) (h : PH) : Array Value → State → Prop :=
  va_Pc (as.map (mv ad)) (fun U => VMf dC dI cy sa U ∧ HPf B b sc U U.heap ∧ va_P (dC, dI) vwCl (toW ad cy h) U.heap ∧ va_D (AB B) (toW ad cy h) ∧ ad SID = b)
def QcM (dC : Nat → ClassId) (dI : Nat → Nat → Nat) (cy : Nat → ClassId) (B : Nat) (al : Bool) (n0 : Nat) (ad : Nat → Nat) (Q : Out → PH → Prop) : Array Value → State → Outcome → State → Prop := fun _ st oc t =>
  ∃ (v : Option Value) (h' : PH) (ad' : Nat → Nat), oc = .returned (v.map (mv ad')) ∧ Q (.inl v) h' ∧ (al = false → ad' = ad) ∧ agr n0 ad ad' ∧ n0 ≤ h'.length ∧ va_P (dC, dI) vwCl (toW ad' cy h') t.heap ∧ va_D (AB B) (toW ad' cy h') ∧ va_F (AB B) st t
def XcM (dC : Nat → ClassId) (dI : Nat → Nat → Nat) (cy : Nat → ClassId) (B : Nat) (al : Bool) (n0 : Nat) (ad : Nat → Nat) (Q : Out → PH → Prop) : String → State → State → Prop := fun E st t =>
  ∃ (k : Nat) (h' : PH) (ad' : Nat → Nat), exN[k]? = some E ∧ Q (.inr k) h' ∧ (al = false → ad' = ad) ∧ agr n0 ad ad' ∧ n0 ≤ h'.length ∧ va_P (dC, dI) vwCl (toW ad' cy h') t.heap ∧ va_D (AB B) (toW ad' cy h') ∧ va_F (AB B) st t
theorem PcM.blind {dC : Nat → ClassId} {dI : Nat → Nat → Nat} {cy : Nat → ClassId} {sa : Nat → Nat} {B b : Nat} {sc : Scr} {ad : Nat → Nat} {as : List Value} {h : PH} : FrameBlind (PcM dC dI cy sa B b sc ad as h) := by
  intro a U g mk q
  obtain ⟨h1, h2, h3, h4, h5, h6⟩ := q
  exact ⟨h1, VMf.warm (s := U) (U := U.calling g mk a) (State.WarmedH.refl U) h2, HPf.blind (U := U) (U' := U.calling g mk a) rfl rfl h3, h4, h5, h6⟩
/-- a callee that doesn't throw -/
theorem met_of_vx {l : Launch} {y : MethodName} {ws : List Cond} {rm : Room} {Pc : Array Value → State → Prop} {Qc : Array Value → State → Outcome → State → Prop} {XC : String → State → State → Prop} {mc ms : Nat} {free : Addr → Prop} (hX : ∀ E st t, ¬ XC E st t) (h : vx_Met l y ws rm Pc Qc XC mc ms free) : Met l y ws rm Pc Qc mc ms free := by
  intro p e ha hc hk s m args below hf hap hP hK
  obtain ⟨n, o, h1, h2, h3, h4⟩ := h p e ha hc hk s m args below hf hap hP hK
  refine ⟨n, o, h1, h2, h3, ?_⟩
  rcases h4 with h4 | ⟨q, -, E, ce, L, hx, -⟩
  · exact h4
  · exact absurd hx (hX _ _ _)
section SIM
variable {p : Program} {l : Launch} {e : Env} {R : Room} {s : State} {m : MethodId} {args : Array Value} {below : List Frame} {meth : Method} {c : Code}
variable {dC : Nat → ClassId} {dI : Nat → Nat → Nat} {cy : Nat → ClassId} {sa : Nat → Nat} {B b : Nat} {sc : Scr}
/-- what holds at a point of a frame -/
def Inv (dC : Nat → ClassId) (dI : Nat → Nat → Nat) (cy : Nat → ClassId) (B b : Nat) (R : Room) (s : State) (al : Bool) (n0 : Nat) (ad0 ad : Nat → Nat) (H : Heap) (locs : List Loc) (cells slots : Nat) (h : PH) (rc rs : Nat) : Prop :=
  (al = false → ad = ad0) ∧ agr n0 ad0 ad ∧ n0 ≤ h.length ∧ ad SID = b ∧ va_P (dC, dI) vwCl (toW ad cy h) H ∧ va_D (AB B) (toW ad cy h) ∧ va_S (AB B) s.heap H locs ∧ cells + rc ≤ R.cells ∧ slots + rs ≤ R.slots
def Sim (p : Program) (l : Launch) (e : Env) (R : Room) (s : State) (m : MethodId) (args : Array Value) (below : List Frame) (meth : Method) (c : Code) (dC : Nat → ClassId) (dI : Nat → Nat → Nat) (cy : Nat → ClassId) (B b : Nat) (mi : MI) (n0 : Nat) (ad0 : Nat → Nat) (Z : State → Prop) : Kt := fun pc lv st h rc rs =>
  ∀ (ad : Nat → Nat) (H : Heap) (locs : List Loc) (cells slots : Nat) (ls : Array Slot), Inv dC dI cy B b R s (mAl mi) n0 ad0 ad H locs cells slots h rc rs → srt lv → lv_has ls (mLo mi) (mvl ad lv) →
    W p l e R s m args below meth c H locs cells slots Z (F0 m pc ls (st.map (mv ad)))
/-- behind a call, returned or thrown -/
theorem run_go {H : Heap} {locs : List Loc} {cells slots mc ms pc : Nat} {ls : Array Slot} {st0 rest : List Value} {al : Bool} {n0 : Nat} {ad : Nat → Nat} {Q : Out → PH → Prop} {Z : State → Prop} {a : Array Value}
    (hr : vx_Run p l e R s m args below meth c H locs cells slots mc ms (F0 m pc ls st0) rest (QcM dC dI cy B al n0 ad Q a) (XcM dC dI cy B al n0 ad Q) (AB B)) (hS : va_S (AB B) s.heap H locs)
    (kx : ∀ (E : String) (k : Nat) (h' : PH) (ad' : Nat → Nat) (ce : Cell) (q9 : Addr) (H1 : Heap) (locs1 : List Loc), exN[k]? = some E → Q (.inr k) h' → (al = false → ad' = ad) → agr n0 ad ad' → n0 ≤ h'.length → va_P (dC, dI) vwCl (toW ad' cy h') H1 → va_D (AB B) (toW ad' cy h') → va_S (AB B) s.heap H1 locs1 → H1[q9]? = some ce → ce.vm = .none → s.vm.findClass E = some ce.cls → vx_W p l e R s m args below meth c H1 locs1 (cells + mc) (slots + ms) Z (F0 m pc ls rest) q9)
    (kk : ∀ (v : Option Value) (h' : PH) (ad' : Nat → Nat) (H1 : Heap) (locs1 : List Loc), Q (.inl v) h' → (al = false → ad' = ad) → agr n0 ad ad' → n0 ≤ h'.length → va_P (dC, dI) vwCl (toW ad' cy h') H1 → va_D (AB B) (toW ad' cy h') → va_S (AB B) s.heap H1 locs1 → W p l e R s m args below meth c H1 locs1 (cells + mc) (slots + ms) Z (F0 m (pc + 3) ls ((v.map (mv ad')).toList ++ rest))) : W p l e R s m args below meth c H locs cells slots Z (F0 m pc ls st0) := by
  intro T hT X
  rcases hr T hT X with ⟨v, st₀, t, T', L, h0, X', hL, e1, e2, ⟨v', h', ad', hv, hq, ha1, ha2, hn, hP, hD, hF⟩, st⟩ | ⟨q, st₀, t, T', L, E, ce, h0, X', hL, e1, e2, ⟨k, h', ad', hE, hq, ha1, ha2, hn, hP, hD, hF⟩, hce, hcv, hcl, st⟩
  · obtain ⟨k1, k2, k3⟩ := vx_keep h0 e1 hS (fun _ _ q => q) (fun _ q => q) hL hF
    cases hv
    obtain ⟨t2, a1, b1⟩ := kk v' h' ad' T'.heap (locs ++ L) hq ha1 ha2 hn (by rw [e1]; exact hP) hD k3 T' rfl X'
    exact ⟨t2, st t2 a1, b1⟩
  · obtain ⟨k1, k2, k3⟩ := vx_keep h0 e1 hS (fun _ _ q => q) (fun _ q => q) hL hF
    obtain ⟨t2, a1, b1⟩ := kx E k h' ad' ce q T'.heap (locs ++ L) hE hq ha1 ha2 hn (by rw [e1]; exact hP) hD k3 (by rw [e1]; exact hce) hcv hcl T' rfl X'
    exact ⟨t2, st.trans a1, b1⟩
theorem vx_of_va {H : Heap} {locs : List Loc} {cells slots mc ms : Nat} {g : JFrame} {rest : List Value} {Qa : State → Outcome → State → Prop} {XC : String → State → State → Prop} {free : Addr → Prop} (h : va_Run p l e R s m args below meth c H locs cells slots mc ms g rest Qa free) : vx_Run p l e R s m args below meth c H locs cells slots mc ms g rest Qa XC free :=
  fun T hT X => Or.inl (h T hT X)
end SIM
/-! the tables of the classes -/
theorem cT_get : ∀ ci, ci < 5 → vwCl[ci]? = some (cTn ci) := by
  intro ci h
  match ci, h with
  | 0, _ => rfl
  | 1, _ => rfl
  | 2, _ => rfl
  | 3, _ => rfl
  | 4, _ => rfl
theorem cT_decl : ∀ ci, ci < 5 → ∀ k, k < (cTn ci).2.2 → ((cTn ci).2.1 k).1 = (cTn ci).1 := by decide +kernel
theorem cT_fin : ∀ ci, ci < 5 → ∀ k, k < (cTn ci).2.2 → ((cTn ci).2.1 k).2.2.2 = fin ci k := by decide +kernel
theorem cT_nm : ∀ ci, ci < 5 → ∀ a, a < (cTn ci).2.2 → ∀ b, b < (cTn ci).2.2 → a ≠ b → ((cTn ci).2.1 a).2.1 ≠ ((cTn ci).2.1 b).2.1 := by decide +kernel
def cTy (ci : Nat) : Nat → FieldType := match ci with
  | 0 => tyX0
  | 1 => tyX1
  | 2 => tyX2
  | 3 => tyX3
  | _ => tyX4
theorem cT_ty : ∀ ci, ci < 5 → ∀ k, k < (cTn ci).2.2 → parseFieldDescriptor ((cTn ci).2.1 k).2.2.1 = some (cTy ci k) := by decide +kernel
theorem cT_len : ∀ ci, ci < 5 → ∀ fs, nth dfL ci = some fs → fs.length = (cTn ci).2.2 ∧ ∀ j, j < (cTn ci).2.2 → defaultValue (cTy ci j) = vp_V fs j := by
  intro ci h fs hf
  match ci, h, hf with
  | 0, _, hf => cases hf; decide +kernel
  | 1, _, hf => cases hf; decide +kernel
  | 2, _, hf => cases hf; decide +kernel
  | 3, _, hf => cases hf; decide +kernel
  | 4, _, hf => cases hf; decide +kernel
def tcode : FieldType → Nat
  | .int => 0
  | .long => 1
  | .boolean => 2
  | .object _ => 3
  | .array _ => 3
  | _ => 9
theorem cT_code : ∀ ci, ci < 5 → ∀ k, k < (cTn ci).2.2 → tyOf ci k = some (tcode (cTy ci k)) := by decide +kernel
theorem okK_spec {ty : FieldType} {v : Value} {q : Prop} (h : okK (some (tcode ty)) v q) : q ∧ ∀ ad : Nat → Nat, narrow ty (mv ad v) = mv ad v ∧ fits ty (mv ad v) = true := by
  cases ty <;> cases v <;> first
    | exact False.elim h
    | exact ⟨h, fun _ => ⟨rfl, rfl⟩⟩
    | (obtain ⟨h1, h2⟩ := h
       refine ⟨h2, fun _ => ?_⟩
       rcases h1 with rfl | rfl <;> exact ⟨rfl, rfl⟩)
theorem good_of_GoodIn {big ws : List Cond} (h : GoodIn big ws) : ∀ w ∈ ws, w ∈ big ∧ goodWord w = true := by
  intro w hw
  obtain ⟨h1, h2⟩ := h w hw
  refine ⟨h1, ?_⟩
  rcases h2 with h2 | ⟨ty, rfl⟩
  · cases w <;> first | exact h2 | rfl
  · rfl
