/-! MAKING THE DESK AND THE REFERENCE: all heaps are known -/
theorem VH.of {h : PH} (h1 : Nat.blt h.length 900 = true) (h2 : h.all (ve h.length) = true) : VH h := ⟨Nat.le_of_ble_eq_true h1, List.all_eq_true.mp h2⟩
def w0 : DW := (fun _ => (0, fun _ => 0), 0, fun _ => 0, fun i => i, 4, -1, 0, 0)
def gs0 : Nat → Option Nat := fun _ => none
def gs1 : Nat → Option Nat := va_up gs0 0 (some 5)
def gs2 : Nat → Option Nat := va_up gs1 1 (some 16)
def gs3 : Nat → Option Nat := va_up gs2 2 (some 27)
def gs4 : Nat → Option Nat := va_up gs3 3 (some 38)
theorem gs4_slf : gs4 = slf (fun i => i) := by
  funext i
  match i with
  | 0 => rfl
  | 1 => rfl
  | 2 => rfl
  | 3 => rfl
  | n + 4 =>
    unfold slf gs4 gs3 gs2 gs1 gs0
    rw [if_neg (by omega), va_up_ne _ _ (by omega), va_up_ne _ _ (by omega), va_up_ne _ _ (by omega), va_up_ne _ _ (by omega)]
def stg (g : Nat → Option Nat) (dr : Value) (lt : Int32) (B : PH) : PH := [.inr (3, [.ref 3, .int 0, .ref 4, dr, .int lt, .int 0, .int 0]), eR w0 20, eA w0 20, .inl (0, 6, .inl (fun _ => 0)), .inl (3, 4, .inr (.inr (.inr (.inr g))))] ++ B
section INIT2
variable {sc : Scr} {d : Nat} {Q : Out → PH → Prop}
theorem k_X3 (hQ : Q (.inl none) (toD w0)) : wpC sc (d + 4) 41 [.ref 0] [.inr (3, [.null, .int 0, .null, .null, .int 0, .int 0, .int 0])] Q := by
  have hQ2 : Q (.inl none) (stg gs4 (.ref 49) (-1) (blk w0 0 ++ (blk w0 1 ++ (blk w0 2 ++ (blk w0 3 ++ blk w0 4))))) := by rw [gs4_slf]; exact hQ
  refine enter rfl rfl (fun call hc => go hc 20 (fun K hK => ?_))
  conv => whnf
  refine ⟨Nat.le_of_ble_eq_true rfl, ?_⟩
  conv => whnf
  refine ⟨rfl, ?_⟩
  conv => whnf
  refine ⟨Nat.le_of_ble_eq_true rfl, rfl, ?_⟩
  conv => whnf
  refine k_row (N := 48) hc (VH.of rfl rfl) (Nat.le_of_ble_eq_true rfl) (Nat.le_of_ble_eq_true rfl) (Nat.le_of_ble_eq_true rfl) ?_
  conv => whnf
  refine ⟨6, rfl, Nat.le_of_ble_eq_true rfl, rfl, ?_⟩
  conv => whnf
  refine ⟨Nat.le_of_ble_eq_true rfl, ?_⟩
  conv => whnf
  refine ⟨_, rfl, Nat.le_of_ble_eq_true rfl, ?_⟩
  conv => whnf
  refine ⟨4, rfl, Nat.le_of_ble_eq_true rfl, rfl, rfl, ?_⟩
  conv => whnf
  refine ⟨Nat.le_of_ble_eq_true rfl, ?_⟩
  conv => whnf
  refine ⟨_, rfl, Nat.le_of_ble_eq_true rfl, ?_⟩
  change stpN _ _ _ _ _ _ _ _ _ _ (stg gs0 .null 0 []) _ _
  conv => whnf
  refine ⟨fun c_ => absurd c_ (by decide), fun c_ => ?_⟩
  conv => whnf
  refine hK _ _ _ _ _ _ (go hc 13 (fun K hK => ?_))
  conv => whnf
  refine ⟨_, _, rfl, rfl, ?_⟩
  conv => whnf
  refine ⟨rfl, ?_⟩
  conv => whnf
  refine ⟨Nat.le_of_ble_eq_true rfl, rfl, ?_⟩
  conv => whnf
  refine callee hc (k_X2 (VH.of rfl rfl) (Nat.le_of_ble_eq_true rfl) rfl (Nat.le_of_ble_eq_true rfl) ?_)
  change bk _ _ _ _ _ _ _ _ _ _ (stg gs0 .null 0 (blk w0 0))
  conv => whnf
  refine ⟨_, _, _, rfl, rfl, (show vp_in (nI 0) 4 from vp_in_nI (by omega) (by omega)), ?_⟩
  change stpN _ _ _ _ _ _ _ _ _ _ (stg gs1 .null 0 (blk w0 0)) _ _
  conv => whnf
  refine ⟨fun c_ => absurd c_ (by decide), fun c_ => ?_⟩
  conv => whnf
  refine hK _ _ _ _ _ _ (go hc 13 (fun K hK => ?_))
  conv => whnf
  refine ⟨_, _, rfl, rfl, ?_⟩
  conv => whnf
  refine ⟨rfl, ?_⟩
  conv => whnf
  refine ⟨Nat.le_of_ble_eq_true rfl, rfl, ?_⟩
  conv => whnf
  refine callee hc (k_X2 (VH.of rfl rfl) (Nat.le_of_ble_eq_true rfl) rfl (Nat.le_of_ble_eq_true rfl) ?_)
  change bk _ _ _ _ _ _ _ _ _ _ (stg gs1 .null 0 (blk w0 0 ++ blk w0 1))
  conv => whnf
  refine ⟨_, _, _, rfl, rfl, (show vp_in (nI 1) 4 from vp_in_nI (by omega) (by omega)), ?_⟩
  change stpN _ _ _ _ _ _ _ _ _ _ (stg gs2 .null 0 (blk w0 0 ++ blk w0 1)) _ _
  conv => whnf
  refine ⟨fun c_ => absurd c_ (by decide), fun c_ => ?_⟩
  conv => whnf
  refine hK _ _ _ _ _ _ (go hc 13 (fun K hK => ?_))
  conv => whnf
  refine ⟨_, _, rfl, rfl, ?_⟩
  conv => whnf
  refine ⟨rfl, ?_⟩
  conv => whnf
  refine ⟨Nat.le_of_ble_eq_true rfl, rfl, ?_⟩
  conv => whnf
  refine callee hc (k_X2 (VH.of rfl rfl) (Nat.le_of_ble_eq_true rfl) rfl (Nat.le_of_ble_eq_true rfl) ?_)
  change bk _ _ _ _ _ _ _ _ _ _ (stg gs2 .null 0 (blk w0 0 ++ (blk w0 1 ++ blk w0 2)))
  conv => whnf
  refine ⟨_, _, _, rfl, rfl, (show vp_in (nI 2) 4 from vp_in_nI (by omega) (by omega)), ?_⟩
  change stpN _ _ _ _ _ _ _ _ _ _ (stg gs3 .null 0 (blk w0 0 ++ (blk w0 1 ++ blk w0 2))) _ _
  conv => whnf
  refine ⟨fun c_ => absurd c_ (by decide), fun c_ => ?_⟩
  conv => whnf
  refine hK _ _ _ _ _ _ (go hc 13 (fun K hK => ?_))
  conv => whnf
  refine ⟨_, _, rfl, rfl, ?_⟩
  conv => whnf
  refine ⟨rfl, ?_⟩
  conv => whnf
  refine ⟨Nat.le_of_ble_eq_true rfl, rfl, ?_⟩
  conv => whnf
  refine callee hc (k_X2 (VH.of rfl rfl) (Nat.le_of_ble_eq_true rfl) rfl (Nat.le_of_ble_eq_true rfl) ?_)
  change bk _ _ _ _ _ _ _ _ _ _ (stg gs3 .null 0 (blk w0 0 ++ (blk w0 1 ++ (blk w0 2 ++ blk w0 3))))
  conv => whnf
  refine ⟨_, _, _, rfl, rfl, (show vp_in (nI 3) 4 from vp_in_nI (by omega) (by omega)), ?_⟩
  change stpN _ _ _ _ _ _ _ _ _ _ (stg gs4 .null 0 (blk w0 0 ++ (blk w0 1 ++ (blk w0 2 ++ blk w0 3)))) _ _
  conv => whnf
  refine ⟨fun c_ => ?_, fun c_ => absurd (by decide) c_⟩
  conv => whnf
  refine hK _ _ _ _ _ _ (go hc 10 (fun K hK => ?_))
  conv => whnf
  refine ⟨rfl, ?_⟩
  conv => whnf
  refine ⟨Nat.le_of_ble_eq_true rfl, rfl, ?_⟩
  conv => whnf
  refine callee hc (k_X2 (VH.of rfl rfl) (Nat.le_of_ble_eq_true rfl) rfl (Nat.le_of_ble_eq_true rfl) ?_)
  change bk _ _ _ _ _ _ _ _ _ _ (stg gs4 .null 0 (blk w0 0 ++ (blk w0 1 ++ (blk w0 2 ++ (blk w0 3 ++ blk w0 4)))))
  conv => whnf
  refine ⟨_, rfl, Nat.le_of_ble_eq_true rfl, ?_⟩
  conv => whnf
  refine ⟨_, rfl, Nat.le_of_ble_eq_true rfl, ?_⟩
  change stpN _ _ _ _ _ _ _ _ _ _ (stg gs4 (.ref 49) (-1) (blk w0 0 ++ (blk w0 1 ++ (blk w0 2 ++ (blk w0 3 ++ blk w0 4))))) _ _
  conv => whnf
  exact hQ2
end INIT2
