theorem tg_X1_countCellsUnlikeFromTop : xTgt yX1_countCellsUnlikeFromTop cX1_countCellsUnlikeFromTop 4 (some .int) 1 := ⟨ww_428, ww_22, by decide, by decide +kernel, by decide +kernel⟩
section
variable {Γ : xG} {p : Program} {l : Launch} {e : Env} {s : State} {m : MethodId} {args : Array Value} {below : List Frame} {meth : Method} {c : Code} {rF : Int32 ⊕ String} {wF : xW}
set_option maxRecDepth 100000 in
set_option maxHeartbeats 4000000 in
theorem nd_X1_countCellsUnlikeFromTop_L4 (G : xCx Γ p l s m args meth c RX1 cX1_countCellsUnlikeFromTop 4 (some .int)) (hno : ∀ x ∈ c.exceptionTable.toList, False) : ∀ (n : Nat) (a0 : Nat) (x1 : Option Nat) (x2 : Int32) (x3 : Int32) (w0 : xW), f_X1_countCellsUnlikeFromTop_L4 n a0 x1 x2 x3 w0 = some (rF, wF) → xAW Γ p l e (xRm 4 (x_mc rF) (x_ms rF)) s m args below meth c 4 (xQm Γ below xI rF wF args s (x_mc rF) (x_ms rF)) w0 0 0 4 [(0, .ref a0), (1, va_rf x1), (2, .int x2), (3, .int x3)] [] := by
  intro n
  induction n with
  | zero =>
    intro a0 x1 x2 x3 w0 hyp
    cases (show (none : xO Int32) = some (rF, wF) from hyp)
  | succ n ih =>
    intro a0 x1 x2 x3 w0 hyp
    rw [f_X1_countCellsUnlikeFromTop_L4] at hyp
    refine r_iload_n G 3 dX1_countCellsUnlikeFromTop_4 rfl rfl ?_
    refine r_aload_n G 0 dX1_countCellsUnlikeFromTop_5 rfl rfl ?_
    obtain ⟨v1, hv1, hyp⟩ := x_some hyp
    refine r_getv (C := RX1) (T := TX1) (N := 6) (ci := 1) G 0 (x_getr_e hv1) rfl uw_1 (Nat.le_of_ble_eq_true rfl) rfl ww_14 dX1_countCellsUnlikeFromTop_6 ?_
    refine r_ref hyp (fun a2 ha2 hz => ?_)
    clear hyp; subst ha2; have hyp := hz; clear hz
    obtain ⟨v3, hv3, hyp⟩ := x_some hyp
    refine r_len G hv3 dX1_countCellsUnlikeFromTop_9 ?_
    refine r_icmp_ge G 36 dX1_countCellsUnlikeFromTop_10 (by decide) hyp (fun c4 hyp => ?_) (fun c4 hyp => ?_)
    · refine r_iload_n G 2 dX1_countCellsUnlikeFromTop_36 rfl rfl ?_
      exact r_iret G hyp rfl (Nat.zero_le _) (Nat.zero_le _) dX1_countCellsUnlikeFromTop_37
    · refine r_aload_n G 0 dX1_countCellsUnlikeFromTop_13 rfl rfl ?_
      obtain ⟨v5, hv5, hyp⟩ := x_some hyp
      refine r_getv (C := RX1) (T := TX1) (N := 6) (ci := 1) G 0 (x_getr_e hv5) rfl uw_1 (Nat.le_of_ble_eq_true rfl) rfl ww_14 dX1_countCellsUnlikeFromTop_14 ?_
      refine r_iload_n G 3 dX1_countCellsUnlikeFromTop_17 rfl rfl ?_
      refine r_ref hyp (fun a6 ha6 hz => ?_)
      clear hyp; subst ha6; have hyp := hz; clear hz
      obtain ⟨v7, hv7, hyp⟩ := x_some hyp
      refine r_iald G hv7 dX1_countCellsUnlikeFromTop_18 ?_
      refine r_aload_nq G 1 dX1_countCellsUnlikeFromTop_19 rfl rfl ?_
      refine r_iload_n G 3 dX1_countCellsUnlikeFromTop_20 rfl rfl ?_
      refine r_ref hyp (fun a8 ha8 hz => ?_)
      clear hyp; subst ha8; have hyp := hz; clear hz
      obtain ⟨o11, hyp⟩ := x_chk hyp
      refine r_callV (ι := xI) (T := TX4) (N := 4) (ci := 4) (b := a8) (rest := [.int v7]) (As := [.int x3]) G hno tg_X4_toneFromTop (fun r w' h => ct_X4_toneFromTop (xhl G) _ _ _ r w' h) o11 hyp rfl ww_425 ww_427 ww_426 (by decide) (by decide) rfl rfl (xroom (Nat.le_of_ble_eq_true rfl)) dX1_countCellsUnlikeFromTop_21 (push := (fun r10 => [.int r10, .int v7])) (fun _ => rfl) (fun r10 w9 hyp => ?_)
      refine r_icmp_eq G 30 dX1_countCellsUnlikeFromTop_24 (by decide) hyp (fun c12 hyp => ?_) (fun c12 hyp => ?_)
      · refine r_iinc (v := (x3 + 1)) (lv' := [(3, .int (x3 + 1)), (0, .ref a0), (1, .ref a8), (2, .int x2)]) G 3 dX1_countCellsUnlikeFromTop_30 rfl rfl (by decide) ⟨fun _ => rfl, fun _ => rfl, fun _ => rfl, fun _ => rfl, trivial⟩ rfl ?_
        refine r_goto G 4 dX1_countCellsUnlikeFromTop_33 (by decide) ?_
        refine r_weak (lv' := [(0, .ref a0), (1, .ref a8), (2, .int x2), (3, .int (x3 + 1))]) [1, 2, 3, 0] rfl ?_
        exact ih a0 (some a8) x2 (x3 + 1) w9 hyp
      · refine r_iinc (v := (x2 + 1)) (lv' := [(2, .int (x2 + 1)), (0, .ref a0), (1, .ref a8), (3, .int x3)]) G 2 dX1_countCellsUnlikeFromTop_27 rfl rfl (by decide) ⟨fun _ => rfl, fun _ => rfl, fun _ => rfl, fun _ => rfl, trivial⟩ rfl ?_
        refine r_iinc (v := (x3 + 1)) (lv' := [(3, .int (x3 + 1)), (2, .int (x2 + 1)), (0, .ref a0), (1, .ref a8)]) G 3 dX1_countCellsUnlikeFromTop_30 rfl rfl (by decide) ⟨fun _ => rfl, fun _ => rfl, fun _ => rfl, fun _ => rfl, trivial⟩ rfl ?_
        refine r_goto G 4 dX1_countCellsUnlikeFromTop_33 (by decide) ?_
        refine r_weak (lv' := [(0, .ref a0), (1, .ref a8), (2, .int (x2 + 1)), (3, .int (x3 + 1))]) [2, 3, 1, 0] rfl ?_
        exact ih a0 (some a8) (x2 + 1) (x3 + 1) w9 hyp
end
set_option maxRecDepth 100000 in
set_option maxHeartbeats 4000000 in
theorem ct_X1_countCellsUnlikeFromTop {Γ : xG} {l : Launch} (hl : l.stackTraces = false) (a0 : Nat) (x1 : Option Nat) (w0 : xW) (rF : Int32 ⊕ String) (wF : xW) (hyp : f_X1_countCellsUnlikeFromTop a0 x1 w0 = some (rF, wF)) : xMet Γ l yX1_countCellsUnlikeFromTop (xws yX1_countCellsUnlikeFromTop cX1_countCellsUnlikeFromTop 4 (some .int)) 4 xI [.ref a0, va_rf x1] w0 rF wF (x_mc rF) (x_ms rF) := by
  refine xOfW tg_X1_countCellsUnlikeFromTop hl (lv0 := [(0, .ref a0), (1, va_rf x1)]) (by cases x1 <;> exact Nat.le_of_ble_eq_true rfl) (by cases x1 <;> rfl) ?_
  intro p e s m below meth c G hno hin
  rw [f_X1_countCellsUnlikeFromTop] at hyp
  refine r_iconst (v := 0) G dX1_countCellsUnlikeFromTop_0 (by decide) ?_
  refine r_istore_n (lv' := [(2, .int 0), (0, .ref a0), (1, va_rf x1)]) G dX1_countCellsUnlikeFromTop_1 rfl (by decide) ⟨fun _ => rfl, fun _ => xcq _, trivial⟩ rfl ?_
  refine r_iconst (v := 0) G dX1_countCellsUnlikeFromTop_2 (by decide) ?_
  refine r_istore_n (lv' := [(3, .int 0), (2, .int 0), (0, .ref a0), (1, va_rf x1)]) G dX1_countCellsUnlikeFromTop_3 rfl (by decide) ⟨fun _ => rfl, fun _ => rfl, fun _ => xcq _, trivial⟩ rfl ?_
  refine r_weak (lv' := [(0, .ref a0), (1, va_rf x1), (2, .int 0), (3, .int 0)]) [2, 3, 1, 0] rfl ?_
  exact nd_X1_countCellsUnlikeFromTop_L4 G hno xfuel a0 x1 0 0 w0 hyp
theorem tg_X1_sumBefore : xTgt yX1_sumBefore cX1_sumBefore 4 (some .int) 2 := ⟨ww_429, ww_22, by decide, by decide +kernel, by decide +kernel⟩
section
variable {Γ : xG} {p : Program} {l : Launch} {e : Env} {s : State} {m : MethodId} {args : Array Value} {below : List Frame} {meth : Method} {c : Code} {rF : Int32 ⊕ String} {wF : xW}
end
set_option maxRecDepth 100000 in
set_option maxHeartbeats 4000000 in
theorem ct_X1_sumBefore {Γ : xG} {l : Launch} (hl : l.stackTraces = false) (a0 : Nat) (x1 : Int32) (x2 : Int32) (w0 : xW) (rF : Int32 ⊕ String) (wF : xW) (hyp : f_X1_sumBefore a0 x1 x2 w0 = some (rF, wF)) : xMet Γ l yX1_sumBefore (xws yX1_sumBefore cX1_sumBefore 4 (some .int)) 0 xI [.ref a0, .int x1, .int x2] w0 rF wF (x_mc rF) (x_ms rF) := by
  refine xOfW tg_X1_sumBefore hl (lv0 := [(0, .ref a0), (1, .int x1), (2, .int x2)]) (Nat.le_of_ble_eq_true rfl) rfl ?_
  intro p e s m below meth c G hno hin
  rw [f_X1_sumBefore] at hyp
  refine r_iload_n G 2 dX1_sumBefore_0 rfl rfl ?_
  refine r_bipush (v := 9) G dX1_sumBefore_1 (by decide) ?_
  refine r_imul G dX1_sumBefore_3 ?_
  refine r_iload_n G 1 dX1_sumBefore_4 rfl rfl ?_
  refine r_iadd G dX1_sumBefore_5 ?_
  refine r_istore_n (lv' := [(3, .int ((x2 * 9) + x1)), (0, .ref a0), (1, .int x1), (2, .int x2)]) G dX1_sumBefore_6 rfl (by decide) ⟨fun _ => rfl, fun _ => rfl, fun _ => rfl, trivial⟩ rfl ?_
  refine r_iload_n G 0 dX1_sumBefore_7 rfl rfl ?_
  refine r_if_lt G 29 dX1_sumBefore_8 (by decide) hyp (fun c1 hyp => ?_) (fun c1 hyp => ?_)
  · refine r_iconst (v := 0) G dX1_sumBefore_29 (by decide) ?_
    exact r_iret G hyp rfl (Nat.zero_le _) (Nat.zero_le _) dX1_sumBefore_30
  · refine r_iload_n G 0 dX1_sumBefore_11 rfl rfl ?_
    refine r_aload_n G 1 dX1_sumBefore_12 rfl rfl ?_
    obtain ⟨v2, hv2, hyp⟩ := x_some hyp
    refine r_getv (C := RX1) (T := TX1) (N := 6) (ci := 1) G 1 (x_getr_e hv2) rfl uw_1 (Nat.le_of_ble_eq_true rfl) rfl ww_15 dX1_sumBefore_13 ?_
    refine r_ref hyp (fun a3 ha3 hz => ?_)
    clear hyp; subst ha3; have hyp := hz; clear hz
    obtain ⟨v4, hv4, hyp⟩ := x_some hyp
    refine r_len G hv4 dX1_sumBefore_16 ?_
    refine r_icmp_ge G 29 dX1_sumBefore_17 (by decide) hyp (fun c5 hyp => ?_) (fun c5 hyp => ?_)
    · refine r_iconst (v := 0) G dX1_sumBefore_29 (by decide) ?_
      exact r_iret G hyp rfl (Nat.zero_le _) (Nat.zero_le _) dX1_sumBefore_30
    · refine r_aload_n G 1 dX1_sumBefore_20 rfl rfl ?_
      obtain ⟨v6, hv6, hyp⟩ := x_some hyp
      refine r_getv (C := RX1) (T := TX1) (N := 6) (ci := 1) G 1 (x_getr_e hv6) rfl uw_1 (Nat.le_of_ble_eq_true rfl) rfl ww_15 dX1_sumBefore_21 ?_
      refine r_iload_n G 0 dX1_sumBefore_24 rfl rfl ?_
      refine r_ref hyp (fun a7 ha7 hz => ?_)
      clear hyp; subst ha7; have hyp := hz; clear hz
      obtain ⟨v8, hv8, hyp⟩ := x_some hyp
      refine r_iald G hv8 dX1_sumBefore_25 ?_
      refine r_goto G 30 dX1_sumBefore_26 (by decide) ?_
      exact r_iret G hyp rfl (Nat.zero_le _) (Nat.zero_le _) dX1_sumBefore_30
theorem tg_X1_fillTable : xTgt yX1_fillTable cX1_fillTable 4 none 0 := ⟨ww_433, ww_22, by decide, by decide +kernel, by decide +kernel⟩
section
variable {Γ : xG} {p : Program} {l : Launch} {e : Env} {s : State} {m : MethodId} {args : Array Value} {below : List Frame} {meth : Method} {c : Code} {rF : Unit ⊕ String} {wF : xW}
set_option maxRecDepth 100000 in
set_option maxHeartbeats 4000000 in
theorem nd_X1_fillTable_L10 {k2 : Nat → Int32 → xW → xO Unit} (G : xCx Γ p l s m args meth c RX1 cX1_fillTable 4 none) (hno : ∀ x ∈ c.exceptionTable.toList, False) (hk2 : ∀ (a0 : Nat) (x1 : Int32) (w : xW), k2 a0 x1 w = some (rF, wF) → xAW Γ p l e (xRm 1 (x_mc rF) (x_ms rF)) s m args below meth c 4 (xQm Γ below xV rF wF args s (x_mc rF) (x_ms rF)) w 0 0 2 [(0, .ref a0), (1, .int x1)] []) : ∀ (n : Nat) (a0 : Nat) (x1 : Int32) (x2 : Int32) (w0 : xW), f_X1_fillTable_L10 k2 n a0 x1 x2 w0 = some (rF, wF) → xAW Γ p l e (xRm 1 (x_mc rF) (x_ms rF)) s m args below meth c 4 (xQm Γ below xV rF wF args s (x_mc rF) (x_ms rF)) w0 0 0 10 [(0, .ref a0), (1, .int x1), (2, .int x2)] [] := by
  intro n
  induction n with
  | zero =>
    intro a0 x1 x2 w0 hyp
    cases (show (none : xO Unit) = some (rF, wF) from hyp)
  | succ n ih =>
    intro a0 x1 x2 w0 hyp
    rw [f_X1_fillTable_L10] at hyp
    refine r_iload_n G 2 dX1_fillTable_10 rfl rfl ?_
    refine r_bipush (v := 8) G dX1_fillTable_11 (by decide) ?_
    refine r_icmp_ge G 82 dX1_fillTable_13 (by decide) hyp (fun c2 hyp => ?_) (fun c2 hyp => ?_)
    · refine r_iinc (v := (x1 + 1)) (lv' := [(1, .int (x1 + 1)), (0, .ref a0), (2, .int x2)]) G 1 dX1_fillTable_82 rfl rfl (by decide) ⟨fun _ => rfl, fun _ => rfl, fun _ => rfl, trivial⟩ rfl ?_
      refine r_goto G 2 dX1_fillTable_85 (by decide) ?_
      refine r_weak (lv' := [(0, .ref a0), (1, .int (x1 + 1))]) [1, 0] rfl ?_
      exact hk2 a0 (x1 + 1) w0 hyp
    · refine r_iload_n G 1 dX1_fillTable_16 rfl rfl ?_
      refine r_iconst (v := 1) G dX1_fillTable_17 (by decide) ?_
      refine r_iadd G dX1_fillTable_18 ?_
      refine r_bipush (v := 9) G dX1_fillTable_19 (by decide) ?_
      refine r_imul G dX1_fillTable_21 ?_
      refine r_iload_n G 2 dX1_fillTable_22 rfl rfl ?_
      refine r_iadd G dX1_fillTable_23 ?_
      refine r_iconst (v := 1) G dX1_fillTable_24 (by decide) ?_
      refine r_iadd G dX1_fillTable_25 ?_
      refine r_istore_n (lv' := [(3, .int ((((x1 + 1) * 9) + x2) + 1)), (0, .ref a0), (1, .int x1), (2, .int x2)]) G dX1_fillTable_26 rfl (by decide) ⟨fun _ => rfl, fun _ => rfl, fun _ => rfl, trivial⟩ rfl ?_
      refine r_iload_n G 0 dX1_fillTable_27 rfl rfl ?_
      refine r_aload_n G 1 dX1_fillTable_28 rfl rfl ?_
      obtain ⟨v3, hv3, hyp⟩ := x_some hyp
      refine r_getv (C := RX1) (T := TX1) (N := 6) (ci := 1) G 1 (x_getr_e hv3) rfl uw_1 (Nat.le_of_ble_eq_true rfl) rfl ww_15 dX1_fillTable_29 ?_
      refine r_ref hyp (fun a4 ha4 hz => ?_)
      clear hyp; subst ha4; have hyp := hz; clear hz
      obtain ⟨v5, hv5, hyp⟩ := x_some hyp
      refine r_len G hv5 dX1_fillTable_32 ?_
      refine r_icmp_ge G 76 dX1_fillTable_33 (by decide) hyp (fun c6 hyp => ?_) (fun c6 hyp => ?_)
      · refine r_iinc (v := (x2 + 1)) (lv' := [(2, .int (x2 + 1)), (3, .int ((((x1 + 1) * 9) + x2) + 1)), (0, .ref a0), (1, .int x1)]) G 3 dX1_fillTable_76 rfl rfl (by decide) ⟨fun _ => rfl, fun _ => rfl, fun _ => rfl, fun _ => rfl, trivial⟩ rfl ?_
        refine r_goto G 10 dX1_fillTable_79 (by decide) ?_
        refine r_weak (lv' := [(0, .ref a0), (1, .int x1), (2, .int (x2 + 1))]) [2, 3, 0] rfl ?_
        exact ih a0 x1 (x2 + 1) w0 hyp
      · refine r_aload_n G 1 dX1_fillTable_36 rfl rfl ?_
        obtain ⟨v7, hv7, hyp⟩ := x_some hyp
        refine r_getv (C := RX1) (T := TX1) (N := 6) (ci := 1) G 1 (x_getr_e hv7) rfl uw_1 (Nat.le_of_ble_eq_true rfl) rfl ww_15 dX1_fillTable_37 ?_
        refine r_iload_n G 0 dX1_fillTable_40 rfl rfl ?_
        refine r_aload_n G 1 dX1_fillTable_41 rfl rfl ?_
        refine r_iload_n G 3 dX1_fillTable_42 rfl rfl ?_
        refine r_iload_n G 2 dX1_fillTable_43 rfl rfl ?_
        refine r_callSN (ι := xI) (rest := [.ref a0, .int ((((x1 + 1) * 9) + x2) + 1), va_rf v7]) (As := [.int x2, .int x1]) G hno tg_X6_cellNumber (fun r w' h => ct_X6_cellNumber (xhl G) _ _ _ r w' h) hyp ww_369 ww_201 (by decide) (by decide) rfl rfl (xroom (Nat.le_of_ble_eq_true rfl)) dX1_fillTable_44 (push := (fun r9 => [.int r9, .ref a0, .int ((((x1 + 1) * 9) + x2) + 1), va_rf v7])) (fun _ => rfl) (fun r9 w8 hyp => ?_)
        obtain ⟨o12, hyp⟩ := x_chk hyp
        refine r_callV (ι := xI) (T := TX1) (N := 6) (ci := 1) (b := a0) (rest := [.int ((((x1 + 1) * 9) + x2) + 1), va_rf v7]) (As := [.int r9]) G hno tg_X1_toneAt (fun r w' h => ct_X1_toneAt (xhl G) _ _ _ r w' h) o12 hyp rfl ww_160 ww_162 ww_161 (by decide) (by decide) rfl rfl (xroom (Nat.le_of_ble_eq_true rfl)) dX1_fillTable_47 (push := (fun r11 => [.int r11, .int ((((x1 + 1) * 9) + x2) + 1), va_rf v7])) (fun _ => rfl) (fun r11 w10 hyp => ?_)
        refine r_aload_n G 1 dX1_fillTable_50 rfl rfl ?_
        refine r_iload_n G 3 dX1_fillTable_51 rfl rfl ?_
        refine r_iload_n G 2 dX1_fillTable_52 rfl rfl ?_
        refine r_iconst (v := 1) G dX1_fillTable_53 (by decide) ?_
        refine r_iadd G dX1_fillTable_54 ?_
        obtain ⟨o15, hyp⟩ := x_chk hyp
        refine r_callV (ι := xI) (T := TX1) (N := 6) (ci := 1) (b := a0) (rest := [.int r11, .int ((((x1 + 1) * 9) + x2) + 1), va_rf v7]) (As := [.int x2, .int (x1 + 1)]) G hno tg_X1_sumBefore (fun r w' h => ct_X1_sumBefore (xhl G) _ _ _ _ r w' h) o15 hyp rfl ww_430 ww_432 ww_431 (by decide) (by decide) rfl rfl (xroom (Nat.le_of_ble_eq_true rfl)) dX1_fillTable_55 (push := (fun r14 => [.int r14, .int r11, .int ((((x1 + 1) * 9) + x2) + 1), va_rf v7])) (fun _ => rfl) (fun r14 w13 hyp => ?_)
        refine r_iadd G dX1_fillTable_58 ?_
        refine r_aload_n G 1 dX1_fillTable_59 rfl rfl ?_
        refine r_iload_n G 3 dX1_fillTable_60 rfl rfl ?_
        refine r_iconst (v := 1) G dX1_fillTable_61 (by decide) ?_
        refine r_iadd G dX1_fillTable_62 ?_
        refine r_iload_n G 2 dX1_fillTable_63 rfl rfl ?_
        obtain ⟨o18, hyp⟩ := x_chk hyp
        refine r_callV (ι := xI) (T := TX1) (N := 6) (ci := 1) (b := a0) (rest := [.int (r11 + r14), .int ((((x1 + 1) * 9) + x2) + 1), va_rf v7]) (As := [.int (x2 + 1), .int x1]) G hno tg_X1_sumBefore (fun r w' h => ct_X1_sumBefore (xhl G) _ _ _ _ r w' h) o18 hyp rfl ww_430 ww_432 ww_431 (by decide) (by decide) rfl rfl (xroom (Nat.le_of_ble_eq_true rfl)) dX1_fillTable_64 (push := (fun r17 => [.int r17, .int (r11 + r14), .int ((((x1 + 1) * 9) + x2) + 1), va_rf v7])) (fun _ => rfl) (fun r17 w16 hyp => ?_)
        refine r_iadd G dX1_fillTable_67 ?_
        refine r_aload_n G 1 dX1_fillTable_68 rfl rfl ?_
        refine r_iload_n G 3 dX1_fillTable_69 rfl rfl ?_
        refine r_iload_n G 2 dX1_fillTable_70 rfl rfl ?_
        obtain ⟨o21, hyp⟩ := x_chk hyp
        refine r_callV (ι := xI) (T := TX1) (N := 6) (ci := 1) (b := a0) (rest := [.int ((r11 + r14) + r17), .int ((((x1 + 1) * 9) + x2) + 1), va_rf v7]) (As := [.int x2, .int x1]) G hno tg_X1_sumBefore (fun r w' h => ct_X1_sumBefore (xhl G) _ _ _ _ r w' h) o21 hyp rfl ww_430 ww_432 ww_431 (by decide) (by decide) rfl rfl (xroom (Nat.le_of_ble_eq_true rfl)) dX1_fillTable_71 (push := (fun r20 => [.int r20, .int ((r11 + r14) + r17), .int ((((x1 + 1) * 9) + x2) + 1), va_rf v7])) (fun _ => rfl) (fun r20 w19 hyp => ?_)
        refine r_isub G dX1_fillTable_74 ?_
        refine r_ref hyp (fun a22 ha22 hz => ?_)
        clear hyp; subst ha22; have hyp := hz; clear hz
        obtain ⟨w23, hw23, hyp⟩ := x_some hyp
        refine r_iast G hw23 dX1_fillTable_75 ?_
        refine r_iinc (v := (x2 + 1)) (lv' := [(2, .int (x2 + 1)), (3, .int ((((x1 + 1) * 9) + x2) + 1)), (0, .ref a0), (1, .int x1)]) G 3 dX1_fillTable_76 rfl rfl (by decide) ⟨fun _ => rfl, fun _ => rfl, fun _ => rfl, fun _ => rfl, trivial⟩ rfl ?_
        refine r_goto G 10 dX1_fillTable_79 (by decide) ?_
        refine r_weak (lv' := [(0, .ref a0), (1, .int x1), (2, .int (x2 + 1))]) [2, 3, 0] rfl ?_
        exact ih a0 x1 (x2 + 1) w23 hyp
set_option maxRecDepth 100000 in
set_option maxHeartbeats 4000000 in
theorem nd_X1_fillTable_L2 (G : xCx Γ p l s m args meth c RX1 cX1_fillTable 4 none) (hno : ∀ x ∈ c.exceptionTable.toList, False) : ∀ (n : Nat) (a0 : Nat) (x1 : Int32) (w0 : xW), f_X1_fillTable_L2 n a0 x1 w0 = some (rF, wF) → xAW Γ p l e (xRm 1 (x_mc rF) (x_ms rF)) s m args below meth c 4 (xQm Γ below xV rF wF args s (x_mc rF) (x_ms rF)) w0 0 0 2 [(0, .ref a0), (1, .int x1)] [] := by
  intro n
  induction n with
  | zero =>
    intro a0 x1 w0 hyp
    cases (show (none : xO Unit) = some (rF, wF) from hyp)
  | succ n ih =>
    intro a0 x1 w0 hyp
    rw [f_X1_fillTable_L2] at hyp
    refine r_iload_n G 1 dX1_fillTable_2 rfl rfl ?_
    refine r_bipush (v := 6) G dX1_fillTable_3 (by decide) ?_
    refine r_icmp_ge G 88 dX1_fillTable_5 (by decide) hyp (fun c1 hyp => ?_) (fun c1 hyp => ?_)
    · exact r_vret G hyp (Nat.zero_le _) (Nat.zero_le _) dX1_fillTable_88
    · refine r_iconst (v := 0) G dX1_fillTable_8 (by decide) ?_
      refine r_istore_n (lv' := [(2, .int 0), (0, .ref a0), (1, .int x1)]) G dX1_fillTable_9 rfl (by decide) ⟨fun _ => rfl, fun _ => rfl, trivial⟩ rfl ?_
      refine r_weak (lv' := [(0, .ref a0), (1, .int x1), (2, .int 0)]) [1, 2, 0] rfl ?_
      exact nd_X1_fillTable_L10 G hno ih xfuel a0 x1 0 w0 hyp
end
set_option maxRecDepth 100000 in
set_option maxHeartbeats 4000000 in
theorem ct_X1_fillTable {Γ : xG} {l : Launch} (hl : l.stackTraces = false) (a0 : Nat) (w0 : xW) (rF : Unit ⊕ String) (wF : xW) (hyp : f_X1_fillTable a0 w0 = some (rF, wF)) : xMet Γ l yX1_fillTable (xws yX1_fillTable cX1_fillTable 4 none) 1 xV [.ref a0] w0 rF wF (x_mc rF) (x_ms rF) := by
  refine xOfW tg_X1_fillTable hl (lv0 := [(0, .ref a0)]) (Nat.le_of_ble_eq_true rfl) rfl ?_
  intro p e s m below meth c G hno hin
  rw [f_X1_fillTable] at hyp
  refine r_iconst (v := 0) G dX1_fillTable_0 (by decide) ?_
  refine r_istore_n (lv' := [(1, .int 0), (0, .ref a0)]) G dX1_fillTable_1 rfl (by decide) ⟨fun _ => rfl, trivial⟩ rfl ?_
  refine r_weak (lv' := [(0, .ref a0), (1, .int 0)]) [1, 0] rfl ?_
  exact nd_X1_fillTable_L2 G hno xfuel a0 0 w0 hyp
theorem tg_X1_sumFromTable : xTgt yX1_sumFromTable cX1_sumFromTable 5 (some .int) 4 := ⟨ww_437, ww_22, by decide, by decide +kernel, by decide +kernel⟩
section
variable {Γ : xG} {p : Program} {l : Launch} {e : Env} {s : State} {m : MethodId} {args : Array Value} {below : List Frame} {meth : Method} {c : Code} {rF : Int32 ⊕ String} {wF : xW}
end
set_option maxRecDepth 100000 in
set_option maxHeartbeats 4000000 in
theorem ct_X1_sumFromTable {Γ : xG} {l : Launch} (hl : l.stackTraces = false) (a0 : Nat) (x1 : Int32) (x2 : Int32) (x3 : Int32) (x4 : Int32) (w0 : xW) (rF : Int32 ⊕ String) (wF : xW) (hyp : f_X1_sumFromTable a0 x1 x2 x3 x4 w0 = some (rF, wF)) : xMet Γ l yX1_sumFromTable (xws yX1_sumFromTable cX1_sumFromTable 5 (some .int)) 2 xI [.ref a0, .int x1, .int x2, .int x3, .int x4] w0 rF wF (x_mc rF) (x_ms rF) := by
  refine xOfW tg_X1_sumFromTable hl (lv0 := [(0, .ref a0), (1, .int x1), (2, .int x2), (3, .int x3), (4, .int x4)]) (Nat.le_of_ble_eq_true rfl) rfl ?_
  intro p e s m below meth c G hno hin
  rw [f_X1_sumFromTable] at hyp
  refine r_aload_n G 0 dX1_sumFromTable_0 rfl rfl ?_
  obtain ⟨o3, hyp⟩ := x_chk hyp
  refine r_callV (ι := xV) (T := TX1) (N := 6) (ci := 1) (b := a0) (rest := []) (As := []) G hno tg_X1_fillTable (fun r w' h => ct_X1_fillTable (xhl G) _ _ r w' h) o3 hyp rfl ww_434 ww_436 ww_435 (by decide) (by decide) rfl rfl (xroom (Nat.le_of_ble_eq_true rfl)) dX1_sumFromTable_1 (push := (fun _ => [])) (fun _ => rfl) (fun _ w1 hyp => ?_)
  refine r_aload_n G 0 dX1_sumFromTable_4 rfl rfl ?_
  refine r_iload_n G 3 dX1_sumFromTable_5 rfl rfl ?_
  refine r_iconst (v := 1) G dX1_sumFromTable_6 (by decide) ?_
  refine r_iadd G dX1_sumFromTable_7 ?_
  refine r_iload G 4 dX1_sumFromTable_8 rfl ?_
  refine r_iconst (v := 1) G dX1_sumFromTable_10 (by decide) ?_
  refine r_iadd G dX1_sumFromTable_11 ?_
  obtain ⟨o6, hyp⟩ := x_chk hyp
  refine r_callV (ι := xI) (T := TX1) (N := 6) (ci := 1) (b := a0) (rest := []) (As := [.int (x3 + 1), .int (x4 + 1)]) G hno tg_X1_sumBefore (fun r w' h => ct_X1_sumBefore (xhl G) _ _ _ _ r w' h) o6 hyp rfl ww_430 ww_432 ww_431 (by decide) (by decide) rfl rfl (xroom (Nat.le_of_ble_eq_true rfl)) dX1_sumFromTable_12 (push := (fun r5 => [.int r5])) (fun _ => rfl) (fun r5 w4 hyp => ?_)
  refine r_aload_n G 0 dX1_sumFromTable_15 rfl rfl ?_
  refine r_iload_n G 1 dX1_sumFromTable_16 rfl rfl ?_
  refine r_iload G 4 dX1_sumFromTable_17 rfl ?_
  refine r_iconst (v := 1) G dX1_sumFromTable_19 (by decide) ?_
  refine r_iadd G dX1_sumFromTable_20 ?_
  obtain ⟨o9, hyp⟩ := x_chk hyp
  refine r_callV (ι := xI) (T := TX1) (N := 6) (ci := 1) (b := a0) (rest := [.int r5]) (As := [.int x1, .int (x4 + 1)]) G hno tg_X1_sumBefore (fun r w' h => ct_X1_sumBefore (xhl G) _ _ _ _ r w' h) o9 hyp rfl ww_430 ww_432 ww_431 (by decide) (by decide) rfl rfl (xroom (Nat.le_of_ble_eq_true rfl)) dX1_sumFromTable_21 (push := (fun r8 => [.int r8, .int r5])) (fun _ => rfl) (fun r8 w7 hyp => ?_)
  refine r_isub G dX1_sumFromTable_24 ?_
  refine r_aload_n G 0 dX1_sumFromTable_25 rfl rfl ?_
  refine r_iload_n G 3 dX1_sumFromTable_26 rfl rfl ?_
  refine r_iconst (v := 1) G dX1_sumFromTable_27 (by decide) ?_
  refine r_iadd G dX1_sumFromTable_28 ?_
  refine r_iload_n G 2 dX1_sumFromTable_29 rfl rfl ?_
  obtain ⟨o12, hyp⟩ := x_chk hyp
  refine r_callV (ι := xI) (T := TX1) (N := 6) (ci := 1) (b := a0) (rest := [.int (r5 - r8)]) (As := [.int (x3 + 1), .int x2]) G hno tg_X1_sumBefore (fun r w' h => ct_X1_sumBefore (xhl G) _ _ _ _ r w' h) o12 hyp rfl ww_430 ww_432 ww_431 (by decide) (by decide) rfl rfl (xroom (Nat.le_of_ble_eq_true rfl)) dX1_sumFromTable_30 (push := (fun r11 => [.int r11, .int (r5 - r8)])) (fun _ => rfl) (fun r11 w10 hyp => ?_)
  refine r_isub G dX1_sumFromTable_33 ?_
  refine r_aload_n G 0 dX1_sumFromTable_34 rfl rfl ?_
  refine r_iload_n G 1 dX1_sumFromTable_35 rfl rfl ?_
  refine r_iload_n G 2 dX1_sumFromTable_36 rfl rfl ?_
  obtain ⟨o15, hyp⟩ := x_chk hyp
  refine r_callV (ι := xI) (T := TX1) (N := 6) (ci := 1) (b := a0) (rest := [.int ((r5 - r8) - r11)]) (As := [.int x1, .int x2]) G hno tg_X1_sumBefore (fun r w' h => ct_X1_sumBefore (xhl G) _ _ _ _ r w' h) o15 hyp rfl ww_430 ww_432 ww_431 (by decide) (by decide) rfl rfl (xroom (Nat.le_of_ble_eq_true rfl)) dX1_sumFromTable_37 (push := (fun r14 => [.int r14, .int ((r5 - r8) - r11)])) (fun _ => rfl) (fun r14 w13 hyp => ?_)
  refine r_iadd G dX1_sumFromTable_40 ?_
  exact r_iret G hyp rfl (Nat.zero_le _) (Nat.zero_le _) dX1_sumFromTable_41
theorem tg_X1_sumOfAllCells : xTgt yX1_sumOfAllCells cX1_sumOfAllCells 1 (some .int) 0 := ⟨ww_438, ww_22, by decide, by decide +kernel, by decide +kernel⟩
section
variable {Γ : xG} {p : Program} {l : Launch} {e : Env} {s : State} {m : MethodId} {args : Array Value} {below : List Frame} {meth : Method} {c : Code} {rF : Int32 ⊕ String} {wF : xW}
end
set_option maxRecDepth 100000 in
set_option maxHeartbeats 4000000 in
theorem ct_X1_sumOfAllCells {Γ : xG} {l : Launch} (hl : l.stackTraces = false) (a0 : Nat) (w0 : xW) (rF : Int32 ⊕ String) (wF : xW) (hyp : f_X1_sumOfAllCells a0 w0 = some (rF, wF)) : xMet Γ l yX1_sumOfAllCells (xws yX1_sumOfAllCells cX1_sumOfAllCells 1 (some .int)) 2 xI [.ref a0] w0 rF wF (x_mc rF) (x_ms rF) := by
  refine xOfW tg_X1_sumOfAllCells hl (lv0 := [(0, .ref a0)]) (Nat.le_of_ble_eq_true rfl) rfl ?_
  intro p e s m below meth c G hno hin
  rw [f_X1_sumOfAllCells] at hyp
  refine r_aload_n G 0 dX1_sumOfAllCells_0 rfl rfl ?_
  refine r_iconst (v := 0) G dX1_sumOfAllCells_1 (by decide) ?_
  refine r_iconst (v := 0) G dX1_sumOfAllCells_2 (by decide) ?_
  refine r_bipush (v := 7) G dX1_sumOfAllCells_3 (by decide) ?_
  refine r_iconst (v := 5) G dX1_sumOfAllCells_5 (by decide) ?_
  obtain ⟨o3, hyp⟩ := x_chk hyp
  refine r_callV (ι := xI) (T := TX1) (N := 6) (ci := 1) (b := a0) (rest := []) (As := [.int 0, .int 0, .int 7, .int 5]) G hno tg_X1_sumCellByCell (fun r w' h => ct_X1_sumCellByCell (xhl G) _ _ _ _ _ _ r w' h) o3 hyp rfl ww_371 ww_373 ww_372 (by decide) (by decide) rfl rfl (xroom (Nat.le_of_ble_eq_true rfl)) dX1_sumOfAllCells_6 (push := (fun r2 => [.int r2])) (fun _ => rfl) (fun r2 w1 hyp => ?_)
  exact r_iret G hyp rfl (Nat.zero_le _) (Nat.zero_le _) dX1_sumOfAllCells_9
theorem tg_X6_isConsistent : xTgt yX6_isConsistent cX6_isConsistent 2 (some .boolean) 0 := ⟨ww_448, ww_86, by decide, by decide +kernel, by decide +kernel⟩
section
variable {Γ : xG} {p : Program} {l : Launch} {e : Env} {s : State} {m : MethodId} {args : Array Value} {below : List Frame} {meth : Method} {c : Code} {rF : Int32 ⊕ String} {wF : xW}
end
set_option maxRecDepth 100000 in
set_option maxHeartbeats 4000000 in
theorem ct_X6_isConsistent {Γ : xG} {l : Launch} (hl : l.stackTraces = false) (a0 : Nat) (w0 : xW) (rF : Int32 ⊕ String) (wF : xW) (hyp : f_X6_isConsistent a0 w0 = some (rF, wF)) : xMet Γ l yX6_isConsistent (xws yX6_isConsistent cX6_isConsistent 2 (some .boolean)) 5 xI [.ref a0] w0 rF wF (x_mc rF) (x_ms rF) := by
  refine xOfW tg_X6_isConsistent hl (lv0 := [(0, .ref a0)]) (Nat.le_of_ble_eq_true rfl) rfl ?_
  intro p e s m below meth c G hno hin
  rw [f_X6_isConsistent] at hyp
  refine r_aload_n G 0 dX6_isConsistent_0 rfl rfl ?_
  obtain ⟨o3, hyp⟩ := x_chk hyp
  refine r_callV (ι := xQ) (T := TX6) (N := 9) (ci := 6) (b := a0) (rest := []) (As := []) G hno tg_X6_flattened (fun r w' h => ct_X6_flattened (xhl G) _ _ r w' h) o3 hyp rfl ww_176 ww_178 ww_177 (by decide) (by decide) rfl rfl (xroom (Nat.le_of_ble_eq_true rfl)) dX6_isConsistent_1 (push := (fun r2 => [va_rf r2])) (fun _ => rfl) (fun r2 w1 hyp => ?_)
  refine r_astore_nq (lv' := [(1, va_rf r2), (0, .ref a0)]) G dX6_isConsistent_4 rfl (by decide) ⟨fun _ => rfl, trivial⟩ rfl ?_
  refine r_aload_nq G 0 dX6_isConsistent_5 rfl rfl ?_
  refine r_aload_n G 1 dX6_isConsistent_6 rfl rfl ?_
  obtain ⟨v4, hv4, hyp⟩ := x_some hyp
  refine r_getv (C := RX6) (T := TX6) (N := 9) (ci := 6) G 0 (x_getr_e hv4) rfl uw_6 (Nat.le_of_ble_eq_true rfl) rfl ww_60 dX6_isConsistent_7 ?_
  refine r_ref hyp (fun a5 ha5 hz => ?_)
  clear hyp; subst ha5; have hyp := hz; clear hz
  obtain ⟨o8, hyp⟩ := x_chk hyp
  refine r_callV (ι := xI) (T := TX1) (N := 6) (ci := 1) (b := a5) (rest := []) (As := [va_rf v4]) G hno tg_X1_countCellsUnlikeFromTop (fun r w' h => ct_X1_countCellsUnlikeFromTop (xhl G) _ _ _ r w' h) o8 hyp rfl ww_439 ww_441 ww_440 (by decide) (by decide) rfl rfl (xroom (Nat.le_of_ble_eq_true rfl)) dX6_isConsistent_10 (push := (fun r7 => [.int r7])) (fun _ => rfl) (fun r7 w6 hyp => ?_)
  refine r_if_ne G 47 dX6_isConsistent_13 (by decide) hyp (fun c9 hyp => ?_) (fun c9 hyp => ?_)
  · refine r_iconst (v := 0) G dX6_isConsistent_47 (by decide) ?_
    exact r_iret G hyp (by decide) (Nat.zero_le _) (Nat.zero_le _) dX6_isConsistent_48
  · refine r_aload_n G 0 dX6_isConsistent_16 rfl rfl ?_
    obtain ⟨o12, hyp⟩ := x_chk hyp
    refine r_callV (ι := xI) (T := TX1) (N := 6) (ci := 1) (b := a5) (rest := []) (As := []) G hno tg_X1_sumOfAllCells (fun r w' h => ct_X1_sumOfAllCells (xhl G) _ _ r w' h) o12 hyp rfl ww_442 ww_444 ww_443 (by decide) (by decide) rfl rfl (xroom (Nat.le_of_ble_eq_true rfl)) dX6_isConsistent_17 (push := (fun r11 => [.int r11])) (fun _ => rfl) (fun r11 w10 hyp => ?_)
    refine r_aload_n G 0 dX6_isConsistent_20 rfl rfl ?_
    refine r_iconst (v := 0) G dX6_isConsistent_21 (by decide) ?_
    refine r_iconst (v := 0) G dX6_isConsistent_22 (by decide) ?_
    refine r_bipush (v := 7) G dX6_isConsistent_23 (by decide) ?_
    refine r_iconst (v := 5) G dX6_isConsistent_25 (by decide) ?_
    obtain ⟨o15, hyp⟩ := x_chk hyp
    refine r_callV (ι := xI) (T := TX1) (N := 6) (ci := 1) (b := a5) (rest := [.int r11]) (As := [.int 0, .int 0, .int 7, .int 5]) G hno tg_X1_sumFromTable (fun r w' h => ct_X1_sumFromTable (xhl G) _ _ _ _ _ _ r w' h) o15 hyp rfl ww_445 ww_447 ww_446 (by decide) (by decide) rfl rfl (xroom (Nat.le_of_ble_eq_true rfl)) dX6_isConsistent_26 (push := (fun r14 => [.int r14, .int r11])) (fun _ => rfl) (fun r14 w13 hyp => ?_)
    refine r_icmp_ne G 47 dX6_isConsistent_29 (by decide) hyp (fun c16 hyp => ?_) (fun c16 hyp => ?_)
    · refine r_iconst (v := 0) G dX6_isConsistent_47 (by decide) ?_
      exact r_iret G hyp (by decide) (Nat.zero_le _) (Nat.zero_le _) dX6_isConsistent_48
    · refine r_aload_n G 0 dX6_isConsistent_32 rfl rfl ?_
      obtain ⟨o19, hyp⟩ := x_chk hyp
      refine r_callV (ι := xI) (T := TX1) (N := 6) (ci := 1) (b := a5) (rest := []) (As := []) G hno tg_X1_countAreasByFilling (fun r w' h => ct_X1_countAreasByFilling (xhl G) _ _ r w' h) o19 hyp rfl ww_179 ww_181 ww_180 (by decide) (by decide) rfl rfl (xroom (Nat.le_of_ble_eq_true rfl)) dX6_isConsistent_33 (push := (fun r18 => [.int r18])) (fun _ => rfl) (fun r18 w17 hyp => ?_)
      refine r_aload_n G 0 dX6_isConsistent_36 rfl rfl ?_
      obtain ⟨o22, hyp⟩ := x_chk hyp
      refine r_callV (ι := xI) (T := TX1) (N := 6) (ci := 1) (b := a5) (rest := [.int r18]) (As := []) G hno tg_X1_countAreasByJoining (fun r w' h => ct_X1_countAreasByJoining (xhl G) _ _ r w' h) o22 hyp rfl ww_192 ww_194 ww_193 (by decide) (by decide) rfl rfl (xroom (Nat.le_of_ble_eq_true rfl)) dX6_isConsistent_37 (push := (fun r21 => [.int r21, .int r18])) (fun _ => rfl) (fun r21 w20 hyp => ?_)
      refine r_icmp_ne G 47 dX6_isConsistent_40 (by decide) hyp (fun c23 hyp => ?_) (fun c23 hyp => ?_)
      · refine r_iconst (v := 0) G dX6_isConsistent_47 (by decide) ?_
        exact r_iret G hyp (by decide) (Nat.zero_le _) (Nat.zero_le _) dX6_isConsistent_48
      · refine r_iconst (v := 1) G dX6_isConsistent_43 (by decide) ?_
        refine r_goto G 48 dX6_isConsistent_44 (by decide) ?_
        exact r_iret G hyp (by decide) (Nat.zero_le _) (Nat.zero_le _) dX6_isConsistent_48
theorem tg_X1_equalsItsMirrorImage : xTgt yX1_equalsItsMirrorImage cX1_equalsItsMirrorImage 3 (some .boolean) 0 := ⟨ww_449, ww_22, by decide, by decide +kernel, by decide +kernel⟩
section
variable {Γ : xG} {p : Program} {l : Launch} {e : Env} {s : State} {m : MethodId} {args : Array Value} {below : List Frame} {meth : Method} {c : Code} {rF : Int32 ⊕ String} {wF : xW}
set_option maxRecDepth 100000 in
set_option maxHeartbeats 4000000 in
theorem nd_X1_equalsItsMirrorImage_L10 {k2 : Nat → Int32 → xW → xO Int32} (G : xCx Γ p l s m args meth c RX1 cX1_equalsItsMirrorImage 3 (some .boolean)) (hno : ∀ x ∈ c.exceptionTable.toList, False) (hk2 : ∀ (a0 : Nat) (x1 : Int32) (w : xW), k2 a0 x1 w = some (rF, wF) → xAW Γ p l e (xRm 1 (x_mc rF) (x_ms rF)) s m args below meth c 3 (xQm Γ below xI rF wF args s (x_mc rF) (x_ms rF)) w 0 0 2 [(0, .ref a0), (1, .int x1)] []) : ∀ (n : Nat) (a0 : Nat) (x1 : Int32) (x2 : Int32) (w0 : xW), f_X1_equalsItsMirrorImage_L10 k2 n a0 x1 x2 w0 = some (rF, wF) → xAW Γ p l e (xRm 1 (x_mc rF) (x_ms rF)) s m args below meth c 3 (xQm Γ below xI rF wF args s (x_mc rF) (x_ms rF)) w0 0 0 10 [(0, .ref a0), (1, .int x1), (2, .int x2)] [] := by
  intro n
  induction n with
  | zero =>
    intro a0 x1 x2 w0 hyp
    cases (show (none : xO Int32) = some (rF, wF) from hyp)
  | succ n ih =>
    intro a0 x1 x2 w0 hyp
    rw [f_X1_equalsItsMirrorImage_L10] at hyp
    refine r_iload_n G 2 dX1_equalsItsMirrorImage_10 rfl rfl ?_
    refine r_iconst (v := 4) G dX1_equalsItsMirrorImage_11 (by decide) ?_
    refine r_icmp_ge G 47 dX1_equalsItsMirrorImage_12 (by decide) hyp (fun c2 hyp => ?_) (fun c2 hyp => ?_)
    · refine r_iinc (v := (x1 + 1)) (lv' := [(1, .int (x1 + 1)), (0, .ref a0), (2, .int x2)]) G 1 dX1_equalsItsMirrorImage_47 rfl rfl (by decide) ⟨fun _ => rfl, fun _ => rfl, fun _ => rfl, trivial⟩ rfl ?_
      refine r_goto G 2 dX1_equalsItsMirrorImage_50 (by decide) ?_
      refine r_weak (lv' := [(0, .ref a0), (1, .int (x1 + 1))]) [1, 0] rfl ?_
      exact hk2 a0 (x1 + 1) w0 hyp
    · refine r_aload_n G 0 dX1_equalsItsMirrorImage_15 rfl rfl ?_
      refine r_iload_n G 2 dX1_equalsItsMirrorImage_16 rfl rfl ?_
      refine r_iload_n G 1 dX1_equalsItsMirrorImage_17 rfl rfl ?_
      refine r_callSN (ι := xI) (rest := [.ref a0]) (As := [.int x2, .int x1]) G hno tg_X6_cellNumber (fun r w' h => ct_X6_cellNumber (xhl G) _ _ _ r w' h) hyp ww_369 ww_201 (by decide) (by decide) rfl rfl (xroom (Nat.le_of_ble_eq_true rfl)) dX1_equalsItsMirrorImage_18 (push := (fun r4 => [.int r4, .ref a0])) (fun _ => rfl) (fun r4 w3 hyp => ?_)
      obtain ⟨o7, hyp⟩ := x_chk hyp
      refine r_callV (ι := xI) (T := TX1) (N := 6) (ci := 1) (b := a0) (rest := []) (As := [.int r4]) G hno tg_X1_toneAt (fun r w' h => ct_X1_toneAt (xhl G) _ _ _ r w' h) o7 hyp rfl ww_160 ww_162 ww_161 (by decide) (by decide) rfl rfl (xroom (Nat.le_of_ble_eq_true rfl)) dX1_equalsItsMirrorImage_21 (push := (fun r6 => [.int r6])) (fun _ => rfl) (fun r6 w5 hyp => ?_)
      refine r_aload_n G 0 dX1_equalsItsMirrorImage_24 rfl rfl ?_
      refine r_bipush (v := 7) G dX1_equalsItsMirrorImage_25 (by decide) ?_
      refine r_iload_n G 2 dX1_equalsItsMirrorImage_27 rfl rfl ?_
      refine r_isub G dX1_equalsItsMirrorImage_28 ?_
      refine r_iload_n G 1 dX1_equalsItsMirrorImage_29 rfl rfl ?_
      refine r_callSN (ι := xI) (rest := [.ref a0, .int r6]) (As := [.int (7 - x2), .int x1]) G hno tg_X6_cellNumber (fun r w' h => ct_X6_cellNumber (xhl G) _ _ _ r w' h) hyp ww_369 ww_201 (by decide) (by decide) rfl rfl (xroom (Nat.le_of_ble_eq_true rfl)) dX1_equalsItsMirrorImage_30 (push := (fun r9 => [.int r9, .ref a0, .int r6])) (fun _ => rfl) (fun r9 w8 hyp => ?_)
      obtain ⟨o12, hyp⟩ := x_chk hyp
      refine r_callV (ι := xI) (T := TX1) (N := 6) (ci := 1) (b := a0) (rest := [.int r6]) (As := [.int r9]) G hno tg_X1_toneAt (fun r w' h => ct_X1_toneAt (xhl G) _ _ _ r w' h) o12 hyp rfl ww_160 ww_162 ww_161 (by decide) (by decide) rfl rfl (xroom (Nat.le_of_ble_eq_true rfl)) dX1_equalsItsMirrorImage_33 (push := (fun r11 => [.int r11, .int r6])) (fun _ => rfl) (fun r11 w10 hyp => ?_)
      refine r_icmp_eq G 41 dX1_equalsItsMirrorImage_36 (by decide) hyp (fun c13 hyp => ?_) (fun c13 hyp => ?_)
      · refine r_iinc (v := (x2 + 1)) (lv' := [(2, .int (x2 + 1)), (0, .ref a0), (1, .int x1)]) G 2 dX1_equalsItsMirrorImage_41 rfl rfl (by decide) ⟨fun _ => rfl, fun _ => rfl, fun _ => rfl, trivial⟩ rfl ?_
        refine r_goto G 10 dX1_equalsItsMirrorImage_44 (by decide) ?_
        refine r_weak (lv' := [(0, .ref a0), (1, .int x1), (2, .int (x2 + 1))]) [1, 2, 0] rfl ?_
        exact ih a0 x1 (x2 + 1) w10 hyp
      · refine r_iconst (v := 0) G dX1_equalsItsMirrorImage_39 (by decide) ?_
        exact r_iret G hyp (by decide) (Nat.zero_le _) (Nat.zero_le _) dX1_equalsItsMirrorImage_40
set_option maxRecDepth 100000 in
set_option maxHeartbeats 4000000 in
theorem nd_X1_equalsItsMirrorImage_L2 (G : xCx Γ p l s m args meth c RX1 cX1_equalsItsMirrorImage 3 (some .boolean)) (hno : ∀ x ∈ c.exceptionTable.toList, False) : ∀ (n : Nat) (a0 : Nat) (x1 : Int32) (w0 : xW), f_X1_equalsItsMirrorImage_L2 n a0 x1 w0 = some (rF, wF) → xAW Γ p l e (xRm 1 (x_mc rF) (x_ms rF)) s m args below meth c 3 (xQm Γ below xI rF wF args s (x_mc rF) (x_ms rF)) w0 0 0 2 [(0, .ref a0), (1, .int x1)] [] := by
  intro n
  induction n with
  | zero =>
    intro a0 x1 w0 hyp
    cases (show (none : xO Int32) = some (rF, wF) from hyp)
  | succ n ih =>
    intro a0 x1 w0 hyp
    rw [f_X1_equalsItsMirrorImage_L2] at hyp
    refine r_iload_n G 1 dX1_equalsItsMirrorImage_2 rfl rfl ?_
    refine r_bipush (v := 6) G dX1_equalsItsMirrorImage_3 (by decide) ?_
    refine r_icmp_ge G 53 dX1_equalsItsMirrorImage_5 (by decide) hyp (fun c1 hyp => ?_) (fun c1 hyp => ?_)
    · refine r_iconst (v := 1) G dX1_equalsItsMirrorImage_53 (by decide) ?_
      exact r_iret G hyp (by decide) (Nat.zero_le _) (Nat.zero_le _) dX1_equalsItsMirrorImage_54
    · refine r_iconst (v := 0) G dX1_equalsItsMirrorImage_8 (by decide) ?_
      refine r_istore_n (lv' := [(2, .int 0), (0, .ref a0), (1, .int x1)]) G dX1_equalsItsMirrorImage_9 rfl (by decide) ⟨fun _ => rfl, fun _ => rfl, trivial⟩ rfl ?_
      refine r_weak (lv' := [(0, .ref a0), (1, .int x1), (2, .int 0)]) [1, 2, 0] rfl ?_
      exact nd_X1_equalsItsMirrorImage_L10 G hno ih xfuel a0 x1 0 w0 hyp
end
set_option maxRecDepth 100000 in
set_option maxHeartbeats 4000000 in
theorem ct_X1_equalsItsMirrorImage {Γ : xG} {l : Launch} (hl : l.stackTraces = false) (a0 : Nat) (w0 : xW) (rF : Int32 ⊕ String) (wF : xW) (hyp : f_X1_equalsItsMirrorImage a0 w0 = some (rF, wF)) : xMet Γ l yX1_equalsItsMirrorImage (xws yX1_equalsItsMirrorImage cX1_equalsItsMirrorImage 3 (some .boolean)) 1 xI [.ref a0] w0 rF wF (x_mc rF) (x_ms rF) := by
  refine xOfW tg_X1_equalsItsMirrorImage hl (lv0 := [(0, .ref a0)]) (Nat.le_of_ble_eq_true rfl) rfl ?_
  intro p e s m below meth c G hno hin
  rw [f_X1_equalsItsMirrorImage] at hyp
  refine r_iconst (v := 0) G dX1_equalsItsMirrorImage_0 (by decide) ?_
  refine r_istore_n (lv' := [(1, .int 0), (0, .ref a0)]) G dX1_equalsItsMirrorImage_1 rfl (by decide) ⟨fun _ => rfl, trivial⟩ rfl ?_
  refine r_weak (lv' := [(0, .ref a0), (1, .int 0)]) [1, 0] rfl ?_
  exact nd_X1_equalsItsMirrorImage_L2 G hno xfuel a0 0 w0 hyp
theorem tg_X6_isMirrored : xTgt yX6_isMirrored cX6_isMirrored 1 (some .boolean) 0 := ⟨ww_453, ww_86, by decide, by decide +kernel, by decide +kernel⟩
section
variable {Γ : xG} {p : Program} {l : Launch} {e : Env} {s : State} {m : MethodId} {args : Array Value} {below : List Frame} {meth : Method} {c : Code} {rF : Int32 ⊕ String} {wF : xW}
end
set_option maxRecDepth 100000 in
set_option maxHeartbeats 4000000 in
theorem ct_X6_isMirrored {Γ : xG} {l : Launch} (hl : l.stackTraces = false) (a0 : Nat) (w0 : xW) (rF : Int32 ⊕ String) (wF : xW) (hyp : f_X6_isMirrored a0 w0 = some (rF, wF)) : xMet Γ l yX6_isMirrored (xws yX6_isMirrored cX6_isMirrored 1 (some .boolean)) 5 xI [.ref a0] w0 rF wF (x_mc rF) (x_ms rF) := by
  refine xOfW tg_X6_isMirrored hl (lv0 := [(0, .ref a0)]) (Nat.le_of_ble_eq_true rfl) rfl ?_
  intro p e s m below meth c G hno hin
  rw [f_X6_isMirrored] at hyp
  refine r_aload_n G 0 dX6_isMirrored_0 rfl rfl ?_
  obtain ⟨o3, hyp⟩ := x_chk hyp
  refine r_callV (ι := xQ) (T := TX6) (N := 9) (ci := 6) (b := a0) (rest := []) (As := []) G hno tg_X6_flattened (fun r w' h => ct_X6_flattened (xhl G) _ _ r w' h) o3 hyp rfl ww_176 ww_178 ww_177 (by decide) (by decide) rfl rfl (xroom (Nat.le_of_ble_eq_true rfl)) dX6_isMirrored_1 (push := (fun r2 => [va_rf r2])) (fun _ => rfl) (fun r2 w1 hyp => ?_)
  refine r_ref hyp (fun a4 ha4 hz => ?_)
  clear hyp; subst ha4; have hyp := hz; clear hz
  obtain ⟨o7, hyp⟩ := x_chk hyp
  refine r_callV (ι := xI) (T := TX1) (N := 6) (ci := 1) (b := a4) (rest := []) (As := []) G hno tg_X1_equalsItsMirrorImage (fun r w' h => ct_X1_equalsItsMirrorImage (xhl G) _ _ r w' h) o7 hyp rfl ww_450 ww_452 ww_451 (by decide) (by decide) rfl rfl (xroom (Nat.le_of_ble_eq_true rfl)) dX6_isMirrored_4 (push := (fun r6 => [.int r6])) (fun _ => rfl) (fun r6 w5 hyp => ?_)
  obtain ⟨h8, hyp⟩ := x_chk hyp
  exact r_iret G hyp (xnz h8).1 (Nat.zero_le _) (Nat.zero_le _) dX6_isMirrored_7
theorem tg_X6_isVisible : xTgt yX6_isVisible cX6_isVisible 2 (some .boolean) 1 := ⟨ww_454, ww_86, by decide, by decide +kernel, by decide +kernel⟩
section
variable {Γ : xG} {p : Program} {l : Launch} {e : Env} {s : State} {m : MethodId} {args : Array Value} {below : List Frame} {meth : Method} {c : Code} {rF : Int32 ⊕ String} {wF : xW}
end
set_option maxRecDepth 100000 in
set_option maxHeartbeats 4000000 in
theorem ct_X6_isVisible {Γ : xG} {l : Launch} (hl : l.stackTraces = false) (a0 : Nat) (x1 : Int32) (w0 : xW) (rF : Int32 ⊕ String) (wF : xW) (hyp : f_X6_isVisible a0 x1 w0 = some (rF, wF)) : xMet Γ l yX6_isVisible (xws yX6_isVisible cX6_isVisible 2 (some .boolean)) 7 xI [.ref a0, .int x1] w0 rF wF (x_mc rF) (x_ms rF) := by
  refine xOfW tg_X6_isVisible hl (lv0 := [(0, .ref a0), (1, .int x1)]) (Nat.le_of_ble_eq_true rfl) rfl ?_
  intro p e s m below meth c G hno hin
  rw [f_X6_isVisible] at hyp
  refine r_aload_n G 0 dX6_isVisible_0 rfl rfl ?_
  refine r_iload_n G 1 dX6_isVisible_1 rfl rfl ?_
  obtain ⟨o3, hyp⟩ := x_chk hyp
  refine r_callV (ι := xQ) (T := TX6) (N := 9) (ci := 6) (b := a0) (rest := []) (As := [.int x1]) G hno tg_X6_existingLayer (fun r w' h => ct_X6_existingLayer (xhl G) _ _ _ r w' h) o3 hyp rfl ww_394 ww_396 ww_395 (by decide) (by decide) rfl rfl (xroom (Nat.le_of_ble_eq_true rfl)) dX6_isVisible_2 (push := (fun r2 => [va_rf r2])) (fun _ => rfl) (fun r2 w1 hyp => ?_)
  refine r_ref hyp (fun a4 ha4 hz => ?_)
  clear hyp; subst ha4; have hyp := hz; clear hz
  obtain ⟨v5, hv5, hyp⟩ := x_some hyp
  refine r_getvN (C := RX3) (T := TX3) (N := 3) (ci := 3) G 1 (x_geti_e hv5) rfl uw_3 (Nat.le_of_ble_eq_true rfl) rfl ww_386 dX6_isVisible_5 ?_
  obtain ⟨h6, hyp⟩ := x_chk hyp
  exact r_iret G hyp (xnz h6).1 (Nat.zero_le _) (Nat.zero_le _) dX6_isVisible_8
theorem tg_X1_sizeOfLargestArea : xTgt yX1_sizeOfLargestArea cX1_sizeOfLargestArea 3 (some .int) 0 := ⟨ww_456, ww_22, by decide, by decide +kernel, by decide +kernel⟩
section
variable {Γ : xG} {p : Program} {l : Launch} {e : Env} {s : State} {m : MethodId} {args : Array Value} {below : List Frame} {meth : Method} {c : Code} {rF : Int32 ⊕ String} {wF : xW}
set_option maxRecDepth 100000 in
set_option maxHeartbeats 4000000 in
theorem nd_X1_sizeOfLargestArea_L8 (G : xCx Γ p l s m args meth c RX1 cX1_sizeOfLargestArea 3 (some .int)) (hno : ∀ x ∈ c.exceptionTable.toList, False) : ∀ (n : Nat) (a0 : Nat) (x1 : Int32) (x2 : Int32) (w0 : xW), f_X1_sizeOfLargestArea_L8 n a0 x1 x2 w0 = some (rF, wF) → xAW Γ p l e (xRm 3 (x_mc rF) (x_ms rF)) s m args below meth c 3 (xQm Γ below xI rF wF args s (x_mc rF) (x_ms rF)) w0 0 0 8 [(0, .ref a0), (1, .int x1), (2, .int x2)] [] := by
  intro n
  induction n with
  | zero =>
    intro a0 x1 x2 w0 hyp
    cases (show (none : xO Int32) = some (rF, wF) from hyp)
  | succ n ih =>
    intro a0 x1 x2 w0 hyp
    rw [f_X1_sizeOfLargestArea_L8] at hyp
    refine r_iload_n G 2 dX1_sizeOfLargestArea_8 rfl rfl ?_
    refine r_bipush (v := 48) G dX1_sizeOfLargestArea_9 (by decide) ?_
    refine r_icmp_ge G 30 dX1_sizeOfLargestArea_11 (by decide) hyp (fun c4 hyp => ?_) (fun c4 hyp => ?_)
    · refine r_iload_n G 1 dX1_sizeOfLargestArea_30 rfl rfl ?_
      exact r_iret G hyp rfl (Nat.zero_le _) (Nat.zero_le _) dX1_sizeOfLargestArea_31
    · refine r_iload_n G 1 dX1_sizeOfLargestArea_14 rfl rfl ?_
      refine r_aload_n G 0 dX1_sizeOfLargestArea_15 rfl rfl ?_
      refine r_iload_n G 2 dX1_sizeOfLargestArea_16 rfl rfl ?_
      obtain ⟨o7, hyp⟩ := x_chk hyp
      refine r_callV (ι := xI) (T := TX1) (N := 6) (ci := 1) (b := a0) (rest := [.int x1]) (As := [.int x2]) G hno tg_X1_fillAreaAt (fun r w' h => ct_X1_fillAreaAt (xhl G) _ _ _ r w' h) o7 hyp rfl ww_172 ww_174 ww_173 (by decide) (by decide) rfl rfl (xroom (Nat.le_of_ble_eq_true rfl)) dX1_sizeOfLargestArea_17 (push := (fun r6 => [.int r6, .int x1])) (fun _ => rfl) (fun r6 w5 hyp => ?_)
      refine r_callS (ι := xI) (rest := []) (As := [.int x1, .int r6]) G hno tg_J9_max_7cf53 (fun r w' h => ct_J9_max_7cf53 (xhl G) _ _ _ r w' h) hyp ww_455 ww_323 (by decide) (by decide) rfl rfl (xroom (Nat.le_of_ble_eq_true rfl)) dX1_sizeOfLargestArea_20 (push := (fun r9 => [.int r9])) (fun _ => rfl) (fun r9 w8 hyp => ?_)
      refine r_istore_n (lv' := [(1, .int r9), (0, .ref a0), (2, .int x2)]) G dX1_sizeOfLargestArea_23 rfl (by decide) ⟨fun _ => rfl, fun _ => rfl, fun _ => rfl, trivial⟩ rfl ?_
      refine r_iinc (v := (x2 + 1)) (lv' := [(2, .int (x2 + 1)), (1, .int r9), (0, .ref a0)]) G 2 dX1_sizeOfLargestArea_24 rfl rfl (by decide) ⟨fun _ => rfl, fun _ => rfl, fun _ => rfl, trivial⟩ rfl ?_
      refine r_goto G 8 dX1_sizeOfLargestArea_27 (by decide) ?_
      refine r_weak (lv' := [(0, .ref a0), (1, .int r9), (2, .int (x2 + 1))]) [2, 1, 0] rfl ?_
      exact ih a0 r9 (x2 + 1) w8 hyp
end
set_option maxRecDepth 100000 in
set_option maxHeartbeats 4000000 in
theorem ct_X1_sizeOfLargestArea {Γ : xG} {l : Launch} (hl : l.stackTraces = false) (a0 : Nat) (w0 : xW) (rF : Int32 ⊕ String) (wF : xW) (hyp : f_X1_sizeOfLargestArea a0 w0 = some (rF, wF)) : xMet Γ l yX1_sizeOfLargestArea (xws yX1_sizeOfLargestArea cX1_sizeOfLargestArea 3 (some .int)) 3 xI [.ref a0] w0 rF wF (x_mc rF) (x_ms rF) := by
  refine xOfW tg_X1_sizeOfLargestArea hl (lv0 := [(0, .ref a0)]) (Nat.le_of_ble_eq_true rfl) rfl ?_
  intro p e s m below meth c G hno hin
  rw [f_X1_sizeOfLargestArea] at hyp
  refine r_aload_n G 0 dX1_sizeOfLargestArea_0 rfl rfl ?_
  obtain ⟨o3, hyp⟩ := x_chk hyp
  refine r_callV (ι := xV) (T := TX1) (N := 6) (ci := 1) (b := a0) (rest := []) (As := []) G hno tg_X1_reachNothing (fun r w' h => ct_X1_reachNothing (xhl G) _ _ r w' h) o3 hyp rfl ww_169 ww_171 ww_170 (by decide) (by decide) rfl rfl (xroom (Nat.le_of_ble_eq_true rfl)) dX1_sizeOfLargestArea_1 (push := (fun _ => [])) (fun _ => rfl) (fun _ w1 hyp => ?_)
  refine r_iconst (v := 0) G dX1_sizeOfLargestArea_4 (by decide) ?_
  refine r_istore_n (lv' := [(1, .int 0), (0, .ref a0)]) G dX1_sizeOfLargestArea_5 rfl (by decide) ⟨fun _ => rfl, trivial⟩ rfl ?_
  refine r_iconst (v := 0) G dX1_sizeOfLargestArea_6 (by decide) ?_
  refine r_istore_n (lv' := [(2, .int 0), (1, .int 0), (0, .ref a0)]) G dX1_sizeOfLargestArea_7 rfl (by decide) ⟨fun _ => rfl, fun _ => rfl, trivial⟩ rfl ?_
  refine r_weak (lv' := [(0, .ref a0), (1, .int 0), (2, .int 0)]) [2, 1, 0] rfl ?_
  exact nd_X1_sizeOfLargestArea_L8 G hno xfuel a0 0 0 w1 hyp
theorem tg_X6_largestArea : xTgt yX6_largestArea cX6_largestArea 1 (some .int) 0 := ⟨ww_460, ww_86, by decide, by decide +kernel, by decide +kernel⟩
section
variable {Γ : xG} {p : Program} {l : Launch} {e : Env} {s : State} {m : MethodId} {args : Array Value} {below : List Frame} {meth : Method} {c : Code} {rF : Int32 ⊕ String} {wF : xW}
end
set_option maxRecDepth 100000 in
set_option maxHeartbeats 4000000 in
theorem ct_X6_largestArea {Γ : xG} {l : Launch} (hl : l.stackTraces = false) (a0 : Nat) (w0 : xW) (rF : Int32 ⊕ String) (wF : xW) (hyp : f_X6_largestArea a0 w0 = some (rF, wF)) : xMet Γ l yX6_largestArea (xws yX6_largestArea cX6_largestArea 1 (some .int)) 5 xI [.ref a0] w0 rF wF (x_mc rF) (x_ms rF) := by
  refine xOfW tg_X6_largestArea hl (lv0 := [(0, .ref a0)]) (Nat.le_of_ble_eq_true rfl) rfl ?_
  intro p e s m below meth c G hno hin
  rw [f_X6_largestArea] at hyp
  refine r_aload_n G 0 dX6_largestArea_0 rfl rfl ?_
  obtain ⟨o3, hyp⟩ := x_chk hyp
  refine r_callV (ι := xQ) (T := TX6) (N := 9) (ci := 6) (b := a0) (rest := []) (As := []) G hno tg_X6_flattened (fun r w' h => ct_X6_flattened (xhl G) _ _ r w' h) o3 hyp rfl ww_176 ww_178 ww_177 (by decide) (by decide) rfl rfl (xroom (Nat.le_of_ble_eq_true rfl)) dX6_largestArea_1 (push := (fun r2 => [va_rf r2])) (fun _ => rfl) (fun r2 w1 hyp => ?_)
  refine r_ref hyp (fun a4 ha4 hz => ?_)
  clear hyp; subst ha4; have hyp := hz; clear hz
  obtain ⟨o7, hyp⟩ := x_chk hyp
  refine r_callV (ι := xI) (T := TX1) (N := 6) (ci := 1) (b := a4) (rest := []) (As := []) G hno tg_X1_sizeOfLargestArea (fun r w' h => ct_X1_sizeOfLargestArea (xhl G) _ _ r w' h) o7 hyp rfl ww_457 ww_459 ww_458 (by decide) (by decide) rfl rfl (xroom (Nat.le_of_ble_eq_true rfl)) dX6_largestArea_4 (push := (fun r6 => [.int r6])) (fun _ => rfl) (fun r6 w5 hyp => ?_)
  exact r_iret G hyp rfl (Nat.zero_le _) (Nat.zero_le _) dX6_largestArea_7
theorem tg_X4_tonesOf : xTgt yX4_tonesOf cX4_tonesOf 3 (some .int) 1 := ⟨ww_461, ww_40, by decide, by decide +kernel, by decide +kernel⟩
section
variable {Γ : xG} {p : Program} {l : Launch} {e : Env} {s : State} {m : MethodId} {args : Array Value} {below : List Frame} {meth : Method} {c : Code} {rF : Int32 ⊕ String} {wF : xW}
end
set_option maxRecDepth 100000 in
set_option maxHeartbeats 4000000 in
theorem ct_X4_tonesOf {Γ : xG} {l : Launch} (hl : l.stackTraces = false) (a0 : Nat) (x1 : Int32) (w0 : xW) (rF : Int32 ⊕ String) (wF : xW) (hyp : f_X4_tonesOf a0 x1 w0 = some (rF, wF)) : xMet Γ l yX4_tonesOf (xws yX4_tonesOf cX4_tonesOf 3 (some .int)) 1 xI [.ref a0, .int x1] w0 rF wF (x_mc rF) (x_ms rF) := by
  refine xOfW tg_X4_tonesOf hl (lv0 := [(0, .ref a0), (1, .int x1)]) (Nat.le_of_ble_eq_true rfl) rfl ?_
  intro p e s m below meth c G hno hin
  rw [f_X4_tonesOf] at hyp
  refine r_aload_n G 0 dX4_tonesOf_0 rfl rfl ?_
  refine r_iload_n G 1 dX4_tonesOf_1 rfl rfl ?_
  obtain ⟨o3, hyp⟩ := x_chk hyp
  refine r_callV (ι := xQ) (T := TX4) (N := 4) (ci := 4) (b := a0) (rest := []) (As := [.int x1]) G hno tg_X4_at (fun r w' h => ct_X4_at (xhl G) _ _ _ r w' h) o3 hyp rfl ww_99 ww_101 ww_100 (by decide) (by decide) rfl rfl (xroom (Nat.le_of_ble_eq_true rfl)) dX4_tonesOf_2 (push := (fun r2 => [va_rf r2])) (fun _ => rfl) (fun r2 w1 hyp => ?_)
  refine r_astore_nq (lv' := [(2, va_rf r2), (0, .ref a0), (1, .int x1)]) G dX4_tonesOf_5 rfl (by decide) ⟨fun _ => rfl, fun _ => rfl, trivial⟩ rfl ?_
  refine r_aload_nq G 0 dX4_tonesOf_6 rfl rfl ?_
  refine r_ifnonnull G 14 dX4_tonesOf_7 (by decide) hyp (fun a4 ha4 hz => ?_) (fun hyp => ?_)
  · clear hyp; subst ha4; have hyp := hz; clear hz
    refine r_aload_n G 0 dX4_tonesOf_14 rfl rfl ?_
    obtain ⟨o7, hyp⟩ := x_chk hyp
    refine r_callV (ι := xI) (T := TX3) (N := 3) (ci := 3) (b := a4) (rest := []) (As := []) G hno tg_X3_countTones (fun r w' h => ct_X3_countTones (xhl G) _ _ r w' h) o7 hyp rfl ww_232 ww_234 ww_233 (by decide) (by decide) rfl rfl (xroom (Nat.le_of_ble_eq_true rfl)) dX4_tonesOf_15 (push := (fun r6 => [.int r6])) (fun _ => rfl) (fun r6 w5 hyp => ?_)
    exact r_iret G hyp rfl (Nat.zero_le _) (Nat.zero_le _) dX4_tonesOf_18
  · refine r_iconst (v := 0) G dX4_tonesOf_10 (by decide) ?_
    refine r_goto G 18 dX4_tonesOf_11 (by decide) ?_
    exact r_iret G hyp rfl (Nat.zero_le _) (Nat.zero_le _) dX4_tonesOf_18
theorem tg_X4_countAhead : xTgt yX4_countAhead cX4_countAhead 6 (some .int) 1 := ⟨ww_465, ww_40, by decide, by decide +kernel, by decide +kernel⟩
section
variable {Γ : xG} {p : Program} {l : Launch} {e : Env} {s : State} {m : MethodId} {args : Array Value} {below : List Frame} {meth : Method} {c : Code} {rF : Int32 ⊕ String} {wF : xW}
set_option maxRecDepth 100000 in
set_option maxHeartbeats 4000000 in
theorem nd_X4_countAhead_L11 (G : xCx Γ p l s m args meth c RX4 cX4_countAhead 6 (some .int)) (hno : ∀ x ∈ c.exceptionTable.toList, False) : ∀ (n : Nat) (a0 : Nat) (x1 : Int32) (x2 : Int32) (x3 : Int32) (x4 : Int32) (w0 : xW), f_X4_countAhead_L11 n a0 x1 x2 x3 x4 w0 = some (rF, wF) → xAW Γ p l e (xRm 2 (x_mc rF) (x_ms rF)) s m args below meth c 6 (xQm Γ below xI rF wF args s (x_mc rF) (x_ms rF)) w0 0 0 11 [(0, .ref a0), (1, .int x1), (2, .int x2), (3, .int x3), (4, .int x4)] [] := by
  intro n
  induction n with
  | zero =>
    intro a0 x1 x2 x3 x4 w0 hyp
    cases (show (none : xO Int32) = some (rF, wF) from hyp)
  | succ n ih =>
    intro a0 x1 x2 x3 x4 w0 hyp
    rw [f_X4_countAhead_L11] at hyp
    refine r_iload G 4 dX4_countAhead_11 rfl ?_
    refine r_aload_n G 0 dX4_countAhead_13 rfl rfl ?_
    obtain ⟨v4, hv4, hyp⟩ := x_some hyp
    refine r_getv (C := RX4) (T := TX4) (N := 4) (ci := 4) G 1 (x_geti_e hv4) rfl uw_4 (Nat.le_of_ble_eq_true rfl) rfl ww_32 dX4_countAhead_14 ?_
    refine r_icmp_ge G 55 dX4_countAhead_17 (by decide) hyp (fun c5 hyp => ?_) (fun c5 hyp => ?_)
    · refine r_iload_n G 3 dX4_countAhead_55 rfl rfl ?_
      exact r_iret G hyp rfl (Nat.zero_le _) (Nat.zero_le _) dX4_countAhead_56
    · refine r_aload_n G 0 dX4_countAhead_20 rfl rfl ?_
      refine r_iload G 4 dX4_countAhead_21 rfl ?_
      obtain ⟨o8, hyp⟩ := x_chk hyp
      refine r_callV (ι := xI) (T := TX4) (N := 4) (ci := 4) (b := a0) (rest := []) (As := [.int x4]) G hno tg_X4_tonesOf (fun r w' h => ct_X4_tonesOf (xhl G) _ _ _ r w' h) o8 hyp rfl ww_462 ww_464 ww_463 (by decide) (by decide) rfl rfl (xroom (Nat.le_of_ble_eq_true rfl)) dX4_countAhead_23 (push := (fun r7 => [.int r7])) (fun _ => rfl) (fun r7 w6 hyp => ?_)
      refine r_istore (lv' := [(5, .int r7), (0, .ref a0), (1, .int x1), (2, .int x2), (3, .int x3), (4, .int x4)]) G dX4_countAhead_26 (by decide) ⟨fun _ => rfl, fun _ => rfl, fun _ => rfl, fun _ => rfl, fun _ => rfl, trivial⟩ rfl ?_
      refine r_iload G 0 dX4_countAhead_28 rfl ?_
      refine r_iload_n G 3 dX4_countAhead_30 rfl rfl ?_
      refine r_icmp_gt G 46 dX4_countAhead_31 (by decide) hyp (fun c9 hyp => ?_) (fun c9 hyp => ?_)
      · refine r_iinc (v := (x3 + 1)) (lv' := [(3, .int (x3 + 1)), (5, .int r7), (0, .ref a0), (1, .int x1), (2, .int x2), (4, .int x4)]) G 4 dX4_countAhead_46 rfl rfl (by decide) ⟨fun _ => rfl, fun _ => rfl, fun _ => rfl, fun _ => rfl, fun _ => rfl, fun _ => rfl, trivial⟩ rfl ?_
        refine r_iinc (v := (x4 + 1)) (lv' := [(4, .int (x4 + 1)), (3, .int (x3 + 1)), (5, .int r7), (0, .ref a0), (1, .int x1), (2, .int x2)]) G 5 dX4_countAhead_49 rfl rfl (by decide) ⟨fun _ => rfl, fun _ => rfl, fun _ => rfl, fun _ => rfl, fun _ => rfl, fun _ => rfl, trivial⟩ rfl ?_
        refine r_goto G 11 dX4_countAhead_52 (by decide) ?_
        refine r_weak (lv' := [(0, .ref a0), (1, .int x1), (2, .int x2), (3, .int (x3 + 1)), (4, .int (x4 + 1))]) [3, 4, 5, 1, 0] rfl ?_
        exact ih a0 x1 x2 (x3 + 1) (x4 + 1) w6 hyp
      · refine r_iload G 0 dX4_countAhead_34 rfl ?_
        refine r_iload_n G 3 dX4_countAhead_36 rfl rfl ?_
        refine r_icmp_ne G 49 dX4_countAhead_37 (by decide) hyp (fun c10 hyp => ?_) (fun c10 hyp => ?_)
        · refine r_iinc (v := (x4 + 1)) (lv' := [(4, .int (x4 + 1)), (5, .int r7), (0, .ref a0), (1, .int x1), (2, .int x2), (3, .int x3)]) G 5 dX4_countAhead_49 rfl rfl (by decide) ⟨fun _ => rfl, fun _ => rfl, fun _ => rfl, fun _ => rfl, fun _ => rfl, fun _ => rfl, trivial⟩ rfl ?_
          refine r_goto G 11 dX4_countAhead_52 (by decide) ?_
          refine r_weak (lv' := [(0, .ref a0), (1, .int x1), (2, .int x2), (3, .int x3), (4, .int (x4 + 1))]) [2, 3, 4, 5, 0] rfl ?_
          exact ih a0 x1 x2 x3 (x4 + 1) w6 hyp
        · refine r_iload G 5 dX4_countAhead_40 rfl ?_
          refine r_iload_n G 2 dX4_countAhead_42 rfl rfl ?_
          refine r_icmp_ge G 49 dX4_countAhead_43 (by decide) hyp (fun c11 hyp => ?_) (fun c11 hyp => ?_)
          · refine r_iinc (v := (x4 + 1)) (lv' := [(4, .int (x4 + 1)), (5, .int r7), (0, .ref a0), (1, .int x1), (2, .int x2), (3, .int x3)]) G 5 dX4_countAhead_49 rfl rfl (by decide) ⟨fun _ => rfl, fun _ => rfl, fun _ => rfl, fun _ => rfl, fun _ => rfl, fun _ => rfl, trivial⟩ rfl ?_
            refine r_goto G 11 dX4_countAhead_52 (by decide) ?_
            refine r_weak (lv' := [(0, .ref a0), (1, .int x1), (2, .int x2), (3, .int x3), (4, .int (x4 + 1))]) [2, 3, 4, 5, 0] rfl ?_
            exact ih a0 x1 x2 x3 (x4 + 1) w6 hyp
          · refine r_iinc (v := (x3 + 1)) (lv' := [(3, .int (x3 + 1)), (5, .int r7), (0, .ref a0), (1, .int x1), (2, .int x2), (4, .int x4)]) G 4 dX4_countAhead_46 rfl rfl (by decide) ⟨fun _ => rfl, fun _ => rfl, fun _ => rfl, fun _ => rfl, fun _ => rfl, fun _ => rfl, trivial⟩ rfl ?_
            refine r_iinc (v := (x4 + 1)) (lv' := [(4, .int (x4 + 1)), (3, .int (x3 + 1)), (5, .int r7), (0, .ref a0), (1, .int x1), (2, .int x2)]) G 5 dX4_countAhead_49 rfl rfl (by decide) ⟨fun _ => rfl, fun _ => rfl, fun _ => rfl, fun _ => rfl, fun _ => rfl, fun _ => rfl, trivial⟩ rfl ?_
            refine r_goto G 11 dX4_countAhead_52 (by decide) ?_
            refine r_weak (lv' := [(0, .ref a0), (1, .int x1), (2, .int x2), (3, .int (x3 + 1)), (4, .int (x4 + 1))]) [3, 4, 5, 1, 0] rfl ?_
            exact ih a0 x1 x2 (x3 + 1) (x4 + 1) w6 hyp
end
set_option maxRecDepth 100000 in
set_option maxHeartbeats 4000000 in
theorem ct_X4_countAhead {Γ : xG} {l : Launch} (hl : l.stackTraces = false) (a0 : Nat) (x1 : Int32) (w0 : xW) (rF : Int32 ⊕ String) (wF : xW) (hyp : f_X4_countAhead a0 x1 w0 = some (rF, wF)) : xMet Γ l yX4_countAhead (xws yX4_countAhead cX4_countAhead 6 (some .int)) 2 xI [.ref a0, .int x1] w0 rF wF (x_mc rF) (x_ms rF) := by
  refine xOfW tg_X4_countAhead hl (lv0 := [(0, .ref a0), (1, .int x1)]) (Nat.le_of_ble_eq_true rfl) rfl ?_
  intro p e s m below meth c G hno hin
  rw [f_X4_countAhead] at hyp
  refine r_aload_n G 0 dX4_countAhead_0 rfl rfl ?_
  refine r_iload_n G 1 dX4_countAhead_1 rfl rfl ?_
  obtain ⟨o3, hyp⟩ := x_chk hyp
  refine r_callV (ι := xI) (T := TX4) (N := 4) (ci := 4) (b := a0) (rest := []) (As := [.int x1]) G hno tg_X4_tonesOf (fun r w' h => ct_X4_tonesOf (xhl G) _ _ _ r w' h) o3 hyp rfl ww_462 ww_464 ww_463 (by decide) (by decide) rfl rfl (xroom (Nat.le_of_ble_eq_true rfl)) dX4_countAhead_2 (push := (fun r2 => [.int r2])) (fun _ => rfl) (fun r2 w1 hyp => ?_)
  refine r_istore_n (lv' := [(2, .int r2), (0, .ref a0), (1, .int x1)]) G dX4_countAhead_5 rfl (by decide) ⟨fun _ => rfl, fun _ => rfl, trivial⟩ rfl ?_
  refine r_iconst (v := 0) G dX4_countAhead_6 (by decide) ?_
  refine r_istore_n (lv' := [(3, .int 0), (2, .int r2), (0, .ref a0), (1, .int x1)]) G dX4_countAhead_7 rfl (by decide) ⟨fun _ => rfl, fun _ => rfl, fun _ => rfl, trivial⟩ rfl ?_
  refine r_iconst (v := 0) G dX4_countAhead_8 (by decide) ?_
  refine r_istore (lv' := [(4, .int 0), (3, .int 0), (2, .int r2), (0, .ref a0), (1, .int x1)]) G dX4_countAhead_9 (by decide) ⟨fun _ => rfl, fun _ => rfl, fun _ => rfl, fun _ => rfl, trivial⟩ rfl ?_
  refine r_weak (lv' := [(0, .ref a0), (1, .int x1), (2, .int r2), (3, .int 0), (4, .int 0)]) [3, 4, 2, 1, 0] rfl ?_
  exact nd_X4_countAhead_L11 G hno xfuel a0 x1 r2 0 0 w1 hyp
theorem tg_X4_positionOfRank : xTgt yX4_positionOfRank cX4_positionOfRank 3 (some .int) 1 := ⟨ww_469, ww_40, by decide, by decide +kernel, by decide +kernel⟩
section
variable {Γ : xG} {p : Program} {l : Launch} {e : Env} {s : State} {m : MethodId} {args : Array Value} {below : List Frame} {meth : Method} {c : Code} {rF : Int32 ⊕ String} {wF : xW}
set_option maxRecDepth 100000 in
set_option maxHeartbeats 4000000 in
theorem nd_X4_positionOfRank_L2 (G : xCx Γ p l s m args meth c RX4 cX4_positionOfRank 3 (some .int)) (hno : ∀ x ∈ c.exceptionTable.toList, False) : ∀ (n : Nat) (a0 : Nat) (x1 : Int32) (x2 : Int32) (w0 : xW), f_X4_positionOfRank_L2 n a0 x1 x2 w0 = some (rF, wF) → xAW Γ p l e (xRm 3 (x_mc rF) (x_ms rF)) s m args below meth c 3 (xQm Γ below xI rF wF args s (x_mc rF) (x_ms rF)) w0 0 0 2 [(0, .ref a0), (1, .int x1), (2, .int x2)] [] := by
  intro n
  induction n with
  | zero =>
    intro a0 x1 x2 w0 hyp
    cases (show (none : xO Int32) = some (rF, wF) from hyp)
  | succ n ih =>
    intro a0 x1 x2 w0 hyp
    rw [f_X4_positionOfRank_L2] at hyp
    refine r_iload_n G 2 dX4_positionOfRank_2 rfl rfl ?_
    refine r_aload_n G 0 dX4_positionOfRank_3 rfl rfl ?_
    obtain ⟨v1, hv1, hyp⟩ := x_some hyp
    refine r_getv (C := RX4) (T := TX4) (N := 4) (ci := 4) G 1 (x_geti_e hv1) rfl uw_4 (Nat.le_of_ble_eq_true rfl) rfl ww_32 dX4_positionOfRank_4 ?_
    refine r_icmp_ge G 27 dX4_positionOfRank_7 (by decide) hyp (fun c2 hyp => ?_) (fun c2 hyp => ?_)
    · refine r_iconst (v := (-1)) G dX4_positionOfRank_27 (by decide) ?_
      exact r_iret G hyp rfl (Nat.zero_le _) (Nat.zero_le _) dX4_positionOfRank_28
    · refine r_aload_n G 0 dX4_positionOfRank_10 rfl rfl ?_
      refine r_iload_n G 2 dX4_positionOfRank_11 rfl rfl ?_
      obtain ⟨o5, hyp⟩ := x_chk hyp
      refine r_callV (ι := xI) (T := TX4) (N := 4) (ci := 4) (b := a0) (rest := []) (As := [.int x2]) G hno tg_X4_countAhead (fun r w' h => ct_X4_countAhead (xhl G) _ _ _ r w' h) o5 hyp rfl ww_466 ww_468 ww_467 (by decide) (by decide) rfl rfl (xroom (Nat.le_of_ble_eq_true rfl)) dX4_positionOfRank_12 (push := (fun r4 => [.int r4])) (fun _ => rfl) (fun r4 w3 hyp => ?_)
      refine r_iload_n G 1 dX4_positionOfRank_15 rfl rfl ?_
      refine r_icmp_ne G 21 dX4_positionOfRank_16 (by decide) hyp (fun c6 hyp => ?_) (fun c6 hyp => ?_)
      · refine r_iinc (v := (x2 + 1)) (lv' := [(2, .int (x2 + 1)), (0, .ref a0), (1, .int x1)]) G 2 dX4_positionOfRank_21 rfl rfl (by decide) ⟨fun _ => rfl, fun _ => rfl, fun _ => rfl, trivial⟩ rfl ?_
        refine r_goto G 2 dX4_positionOfRank_24 (by decide) ?_
        refine r_weak (lv' := [(0, .ref a0), (1, .int x1), (2, .int (x2 + 1))]) [1, 2, 0] rfl ?_
        exact ih a0 x1 (x2 + 1) w3 hyp
      · refine r_iload_n G 2 dX4_positionOfRank_19 rfl rfl ?_
        exact r_iret G hyp rfl (Nat.zero_le _) (Nat.zero_le _) dX4_positionOfRank_20
end
set_option maxRecDepth 100000 in
set_option maxHeartbeats 4000000 in
theorem ct_X4_positionOfRank {Γ : xG} {l : Launch} (hl : l.stackTraces = false) (a0 : Nat) (x1 : Int32) (w0 : xW) (rF : Int32 ⊕ String) (wF : xW) (hyp : f_X4_positionOfRank a0 x1 w0 = some (rF, wF)) : xMet Γ l yX4_positionOfRank (xws yX4_positionOfRank cX4_positionOfRank 3 (some .int)) 3 xI [.ref a0, .int x1] w0 rF wF (x_mc rF) (x_ms rF) := by
  refine xOfW tg_X4_positionOfRank hl (lv0 := [(0, .ref a0), (1, .int x1)]) (Nat.le_of_ble_eq_true rfl) rfl ?_
  intro p e s m below meth c G hno hin
  rw [f_X4_positionOfRank] at hyp
  refine r_iconst (v := 0) G dX4_positionOfRank_0 (by decide) ?_
  refine r_istore_n (lv' := [(2, .int 0), (0, .ref a0), (1, .int x1)]) G dX4_positionOfRank_1 rfl (by decide) ⟨fun _ => rfl, fun _ => rfl, trivial⟩ rfl ?_
  refine r_weak (lv' := [(0, .ref a0), (1, .int x1), (2, .int 0)]) [1, 2, 0] rfl ?_
  exact nd_X4_positionOfRank_L2 G hno xfuel a0 x1 0 w0 hyp
theorem tg_X6_layerByPaint : xTgt yX6_layerByPaint cX6_layerByPaint 3 (some .int) 1 := ⟨ww_473, ww_86, by decide, by decide +kernel, by decide +kernel⟩
section
variable {Γ : xG} {p : Program} {l : Launch} {e : Env} {s : State} {m : MethodId} {args : Array Value} {below : List Frame} {meth : Method} {c : Code} {rF : Int32 ⊕ String} {wF : xW}
end
set_option maxRecDepth 100000 in
set_option maxHeartbeats 4000000 in
theorem ct_X6_layerByPaint {Γ : xG} {l : Launch} (hl : l.stackTraces = false) (a0 : Nat) (x1 : Int32) (w0 : xW) (rF : Int32 ⊕ String) (wF : xW) (hyp : f_X6_layerByPaint a0 x1 w0 = some (rF, wF)) : xMet Γ l yX6_layerByPaint (xws yX6_layerByPaint cX6_layerByPaint 3 (some .int)) 6 xI [.ref a0, .int x1] w0 rF wF (x_mc rF) (x_ms rF) := by
  refine xOfW tg_X6_layerByPaint hl (lv0 := [(0, .ref a0), (1, .int x1)]) (Nat.le_of_ble_eq_true rfl) rfl ?_
  intro p e s m below meth c G hno hin
  rw [f_X6_layerByPaint] at hyp
  refine r_aload_n G 0 dX6_layerByPaint_0 rfl rfl ?_
  obtain ⟨v1, hv1, hyp⟩ := x_some hyp
  refine r_getv (C := RX6) (T := TX6) (N := 9) (ci := 6) G 0 (x_getr_e hv1) rfl uw_6 (Nat.le_of_ble_eq_true rfl) rfl ww_60 dX6_layerByPaint_1 ?_
  refine r_iload_n G 1 dX6_layerByPaint_4 rfl rfl ?_
  refine r_ref hyp (fun a2 ha2 hz => ?_)
  clear hyp; subst ha2; have hyp := hz; clear hz
  obtain ⟨o5, hyp⟩ := x_chk hyp
  refine r_callV (ι := xI) (T := TX4) (N := 4) (ci := 4) (b := a2) (rest := []) (As := [.int x1]) G hno tg_X4_positionOfRank (fun r w' h => ct_X4_positionOfRank (xhl G) _ _ _ r w' h) o5 hyp rfl ww_470 ww_472 ww_471 (by decide) (by decide) rfl rfl (xroom (Nat.le_of_ble_eq_true rfl)) dX6_layerByPaint_5 (push := (fun r4 => [.int r4])) (fun _ => rfl) (fun r4 w3 hyp => ?_)
  refine r_istore_n (lv' := [(2, .int r4), (0, .ref a0), (1, .int x1)]) G dX6_layerByPaint_8 rfl (by decide) ⟨fun _ => rfl, fun _ => rfl, trivial⟩ rfl ?_
  refine r_iload_n G 0 dX6_layerByPaint_9 rfl rfl ?_
  refine r_iconst (v := (-1)) G dX6_layerByPaint_10 (by decide) ?_
  refine r_icmp_ne G 24 dX6_layerByPaint_11 (by decide) hyp (fun c6 hyp => ?_) (fun c6 hyp => ?_)
  · refine r_iload_n G 0 dX6_layerByPaint_24 rfl rfl ?_
    exact r_iret G hyp rfl (Nat.zero_le _) (Nat.zero_le _) dX6_layerByPaint_25
  · exact r_throwX 16 G hno hyp th_RX6_123 lit_16 (by decide) dX6_layerByPaint_14 dX6_layerByPaint_17 dX6_layerByPaint_18 dX6_layerByPaint_20 dX6_layerByPaint_23
theorem tg_X6_layerCount : xTgt yX6_layerCount cX6_layerCount 1 (some .int) 0 := ⟨ww_475, ww_86, by decide, by decide +kernel, by decide +kernel⟩
section
variable {Γ : xG} {p : Program} {l : Launch} {e : Env} {s : State} {m : MethodId} {args : Array Value} {below : List Frame} {meth : Method} {c : Code} {rF : Int32 ⊕ String} {wF : xW}
end
set_option maxRecDepth 100000 in
set_option maxHeartbeats 4000000 in
theorem ct_X6_layerCount {Γ : xG} {l : Launch} (hl : l.stackTraces = false) (a0 : Nat) (w0 : xW) (rF : Int32 ⊕ String) (wF : xW) (hyp : f_X6_layerCount a0 w0 = some (rF, wF)) : xMet Γ l yX6_layerCount (xws yX6_layerCount cX6_layerCount 1 (some .int)) 0 xI [.ref a0] w0 rF wF (x_mc rF) (x_ms rF) := by
  refine xOfW tg_X6_layerCount hl (lv0 := [(0, .ref a0)]) (Nat.le_of_ble_eq_true rfl) rfl ?_
  intro p e s m below meth c G hno hin
  rw [f_X6_layerCount] at hyp
  refine r_aload_n G 0 dX6_layerCount_0 rfl rfl ?_
  obtain ⟨v1, hv1, hyp⟩ := x_some hyp
  refine r_getv (C := RX6) (T := TX6) (N := 9) (ci := 6) G 0 (x_getr_e hv1) rfl uw_6 (Nat.le_of_ble_eq_true rfl) rfl ww_60 dX6_layerCount_1 ?_
  refine r_ref hyp (fun a2 ha2 hz => ?_)
  clear hyp; subst ha2; have hyp := hz; clear hz
  obtain ⟨v3, hv3, hyp⟩ := x_some hyp
  refine r_getvN (C := RX4) (T := TX4) (N := 4) (ci := 4) G 1 (x_geti_e hv3) rfl uw_4 (Nat.le_of_ble_eq_true rfl) rfl ww_474 dX6_layerCount_4 ?_
  exact r_iret G hyp rfl (Nat.zero_le _) (Nat.zero_le _) dX6_layerCount_7
theorem tg_X6_meanTone : xTgt yX6_meanTone cX6_meanTone 1 (some .double) 0 := ⟨ww_477, ww_86, by decide, by decide +kernel, by decide +kernel⟩
section
variable {Γ : xG} {p : Program} {l : Launch} {e : Env} {s : State} {m : MethodId} {args : Array Value} {below : List Frame} {meth : Method} {c : Code} {rF : UInt64 ⊕ String} {wF : xW}
end
set_option maxRecDepth 100000 in
set_option maxHeartbeats 4000000 in
theorem ct_X6_meanTone {Γ : xG} {l : Launch} (hl : l.stackTraces = false) (a0 : Nat) (w0 : xW) (rF : UInt64 ⊕ String) (wF : xW) (hyp : f_X6_meanTone a0 w0 = some (rF, wF)) : xMet Γ l yX6_meanTone (xws yX6_meanTone cX6_meanTone 1 (some .double)) 5 xDb [.ref a0] w0 rF wF (x_mc rF) (x_ms rF) := by
  refine xOfW tg_X6_meanTone hl (lv0 := [(0, .ref a0)]) (Nat.le_of_ble_eq_true rfl) rfl ?_
  intro p e s m below meth c G hno hin
  rw [f_X6_meanTone] at hyp
  refine r_aload_n G 0 dX6_meanTone_0 rfl rfl ?_
  obtain ⟨o3, hyp⟩ := x_chk hyp
  refine r_callV (ι := xQ) (T := TX6) (N := 9) (ci := 6) (b := a0) (rest := []) (As := []) G hno tg_X6_flattened (fun r w' h => ct_X6_flattened (xhl G) _ _ r w' h) o3 hyp rfl ww_176 ww_178 ww_177 (by decide) (by decide) rfl rfl (xroom (Nat.le_of_ble_eq_true rfl)) dX6_meanTone_1 (push := (fun r2 => [va_rf r2])) (fun _ => rfl) (fun r2 w1 hyp => ?_)
  refine r_ref hyp (fun a4 ha4 hz => ?_)
  clear hyp; subst ha4; have hyp := hz; clear hz
  obtain ⟨o7, hyp⟩ := x_chk hyp
  refine r_callV (ι := xI) (T := TX1) (N := 6) (ci := 1) (b := a4) (rest := []) (As := []) G hno tg_X1_sumOfAllCells (fun r w' h => ct_X1_sumOfAllCells (xhl G) _ _ r w' h) o7 hyp rfl ww_442 ww_444 ww_443 (by decide) (by decide) rfl rfl (xroom (Nat.le_of_ble_eq_true rfl)) dX6_meanTone_4 (push := (fun r6 => [.int r6])) (fun _ => rfl) (fun r6 w5 hyp => ?_)
  refine r_i2d G dX6_meanTone_7 ?_
  refine r_ldcd G dX6_meanTone_8 ww_476 ?_
  obtain ⟨h8, hyp⟩ := x_chk hyp
  refine r_ddiv G dX6_meanTone_11 (x_n64_e h8) ?_
  exact r_dret G hyp (Nat.zero_le _) (Nat.zero_le _) dX6_meanTone_12
theorem tg_X6_mergeDown : xTgt yX6_mergeDown cX6_mergeDown 3 (some .int) 1 := ⟨ww_478, ww_86, by decide, by decide +kernel, by decide +kernel⟩
section
variable {Γ : xG} {p : Program} {l : Launch} {e : Env} {s : State} {m : MethodId} {args : Array Value} {below : List Frame} {meth : Method} {c : Code} {rF : Int32 ⊕ String} {wF : xW}
end
set_option maxRecDepth 100000 in
set_option maxHeartbeats 4000000 in
theorem ct_X6_mergeDown {Γ : xG} {l : Launch} (hl : l.stackTraces = false) (a0 : Nat) (x1 : Int32) (w0 : xW) (rF : Int32 ⊕ String) (wF : xW) (hyp : f_X6_mergeDown a0 x1 w0 = some (rF, wF)) : xMet Γ l yX6_mergeDown (xws yX6_mergeDown cX6_mergeDown 3 (some .int)) 6 xI [.ref a0, .int x1] w0 rF wF (x_mc rF) (x_ms rF) := by
  refine xOfW tg_X6_mergeDown hl (lv0 := [(0, .ref a0), (1, .int x1)]) (Nat.le_of_ble_eq_true rfl) rfl ?_
  intro p e s m below meth c G hno hin
  rw [f_X6_mergeDown] at hyp
  refine r_aload_n G 0 dX6_mergeDown_0 rfl rfl ?_
  obtain ⟨v1, hv1, hyp⟩ := x_some hyp
  refine r_getv (C := RX6) (T := TX6) (N := 9) (ci := 6) G 1 (x_getr_e hv1) rfl uw_6 (Nat.le_of_ble_eq_true rfl) rfl ww_65 dX6_mergeDown_1 ?_
  refine r_aload_n G 0 dX6_mergeDown_4 rfl rfl ?_
  obtain ⟨v2, hv2, hyp⟩ := x_some hyp
  refine r_getv (C := RX6) (T := TX6) (N := 9) (ci := 6) G 0 (x_getr_e hv2) rfl uw_6 (Nat.le_of_ble_eq_true rfl) rfl ww_60 dX6_mergeDown_5 ?_
  refine r_ref hyp (fun a3 ha3 hz => ?_)
  clear hyp; subst ha3; have hyp := hz; clear hz
  obtain ⟨o6, hyp⟩ := x_chk hyp
  refine r_callV (ι := xV) (T := TX2) (N := 3) (ci := 2) (b := a3) (rest := []) (As := [va_rf v2]) G hno tg_X2_prepare (fun r w' h => ct_X2_prepare (xhl G) _ _ _ r w' h) o6 hyp rfl ww_129 ww_131 ww_130 (by decide) (by decide) rfl rfl (xroom (Nat.le_of_ble_eq_true rfl)) dX6_mergeDown_8 (push := (fun _ => [])) (fun _ => rfl) (fun _ w4 hyp => ?_)
  refine r_aload_n G 0 dX6_mergeDown_11 rfl rfl ?_
  obtain ⟨v7, hv7, hyp⟩ := x_some hyp
  refine r_getv (C := RX6) (T := TX6) (N := 9) (ci := 6) G 0 (x_getr_e hv7) rfl uw_6 (Nat.le_of_ble_eq_true rfl) rfl ww_60 dX6_mergeDown_12 ?_
  refine r_iload_n G 1 dX6_mergeDown_15 rfl rfl ?_
  refine r_ref hyp (fun a8 ha8 hz => ?_)
  clear hyp; subst ha8; have hyp := hz; clear hz
  obtain ⟨o11, hyp⟩ := x_chk hyp
  refine r_callV (ι := xI) (T := TX4) (N := 4) (ci := 4) (b := a8) (rest := []) (As := [.int x1]) G hno tg_X4_mergeWithLower (fun r w' h => ct_X4_mergeWithLower (xhl G) _ _ _ r w' h) o11 hyp rfl ww_284 ww_286 ww_285 (by decide) (by decide) rfl rfl (xroom (Nat.le_of_ble_eq_true rfl)) dX6_mergeDown_16 (push := (fun r10 => [.int r10])) (fun _ => rfl) (fun r10 w9 hyp => ?_)
  refine r_istore_n (lv' := [(2, .int r10), (0, .ref a0), (1, .int x1)]) G dX6_mergeDown_19 rfl (by decide) ⟨fun _ => rfl, fun _ => rfl, trivial⟩ rfl ?_
  refine r_iload_n G 0 dX6_mergeDown_20 rfl rfl ?_
  refine r_bipush (v := (-2)) G dX6_mergeDown_21 (by decide) ?_
  refine r_icmp_ne G 36 dX6_mergeDown_23 (by decide) hyp (fun c12 hyp => ?_) (fun c12 hyp => ?_)
  · refine r_iload_n G 0 dX6_mergeDown_36 rfl rfl ?_
    refine r_bipush (v := (-5)) G dX6_mergeDown_37 (by decide) ?_
    refine r_icmp_ne G 52 dX6_mergeDown_39 (by decide) hyp (fun c13 hyp => ?_) (fun c13 hyp => ?_)
    · refine r_iload_n G 0 dX6_mergeDown_52 rfl rfl ?_
      refine r_bipush (v := (-6)) G dX6_mergeDown_53 (by decide) ?_
      refine r_icmp_ne G 68 dX6_mergeDown_55 (by decide) hyp (fun c14 hyp => ?_) (fun c14 hyp => ?_)
      · refine r_aload_n G 1 dX6_mergeDown_68 rfl rfl ?_
        obtain ⟨v15, hv15, hyp⟩ := x_some hyp
        refine r_getv (C := RX6) (T := TX6) (N := 9) (ci := 6) G 1 (x_getr_e hv15) rfl uw_6 (Nat.le_of_ble_eq_true rfl) rfl ww_65 dX6_mergeDown_69 ?_
        refine r_ref hyp (fun a16 ha16 hz => ?_)
        clear hyp; subst ha16; have hyp := hz; clear hz
        obtain ⟨o19, hyp⟩ := x_chk hyp
        refine r_callV (ι := xV) (T := TX2) (N := 3) (ci := 2) (b := a16) (rest := []) (As := []) G hno tg_X2_commit (fun r w' h => ct_X2_commit (xhl G) _ _ r w' h) o19 hyp rfl ww_135 ww_137 ww_136 (by decide) (by decide) rfl rfl (xroom (Nat.le_of_ble_eq_true rfl)) dX6_mergeDown_72 (push := (fun _ => [])) (fun _ => rfl) (fun _ w17 hyp => ?_)
        refine r_iload_n G 0 dX6_mergeDown_75 rfl rfl ?_
        exact r_iret G hyp rfl (Nat.zero_le _) (Nat.zero_le _) dX6_mergeDown_76
      · exact r_throw 9 G hno hyp th_RX6_128 lit_9 (by decide) dX6_mergeDown_58 dX6_mergeDown_61 dX6_mergeDown_62 dX6_mergeDown_64 dX6_mergeDown_67
    · exact r_throwX 8 G hno hyp th_RX6_123 lit_8 (by decide) dX6_mergeDown_42 dX6_mergeDown_45 dX6_mergeDown_46 dX6_mergeDown_48 dX6_mergeDown_51
  · exact r_throw 2 G hno hyp th_RX6_89 lit_2 (by decide) dX6_mergeDown_26 dX6_mergeDown_29 dX6_mergeDown_30 dX6_mergeDown_32 dX6_mergeDown_35
theorem tg_X6_mode : xTgt yX6_mode cX6_mode 2 (some .char) 1 := ⟨ww_479, ww_86, by decide, by decide +kernel, by decide +kernel⟩
section
variable {Γ : xG} {p : Program} {l : Launch} {e : Env} {s : State} {m : MethodId} {args : Array Value} {below : List Frame} {meth : Method} {c : Code} {rF : Int32 ⊕ String} {wF : xW}
end
set_option maxRecDepth 100000 in
set_option maxHeartbeats 4000000 in
theorem ct_X6_mode {Γ : xG} {l : Launch} (hl : l.stackTraces = false) (a0 : Nat) (x1 : Int32) (w0 : xW) (rF : Int32 ⊕ String) (wF : xW) (hyp : f_X6_mode a0 x1 w0 = some (rF, wF)) : xMet Γ l yX6_mode (xws yX6_mode cX6_mode 2 (some .char)) 7 xI [.ref a0, .int x1] w0 rF wF (x_mc rF) (x_ms rF) := by
  refine xOfW tg_X6_mode hl (lv0 := [(0, .ref a0), (1, .int x1)]) (Nat.le_of_ble_eq_true rfl) rfl ?_
  intro p e s m below meth c G hno hin
  rw [f_X6_mode] at hyp
  refine r_aload_n G 0 dX6_mode_0 rfl rfl ?_
  refine r_iload_n G 1 dX6_mode_1 rfl rfl ?_
  obtain ⟨o3, hyp⟩ := x_chk hyp
  refine r_callV (ι := xQ) (T := TX6) (N := 9) (ci := 6) (b := a0) (rest := []) (As := [.int x1]) G hno tg_X6_existingLayer (fun r w' h => ct_X6_existingLayer (xhl G) _ _ _ r w' h) o3 hyp rfl ww_394 ww_396 ww_395 (by decide) (by decide) rfl rfl (xroom (Nat.le_of_ble_eq_true rfl)) dX6_mode_2 (push := (fun r2 => [va_rf r2])) (fun _ => rfl) (fun r2 w1 hyp => ?_)
  refine r_ref hyp (fun a4 ha4 hz => ?_)
  clear hyp; subst ha4; have hyp := hz; clear hz
  obtain ⟨v5, hv5, hyp⟩ := x_some hyp
  refine r_getvN (C := RX3) (T := TX3) (N := 3) (ci := 3) G 0 (x_geti_e hv5) rfl uw_3 (Nat.le_of_ble_eq_true rfl) rfl ww_384 dX6_mode_5 ?_
  obtain ⟨h6, hyp⟩ := x_chk hyp
  exact r_iret G hyp (xnc h6).1 (Nat.zero_le _) (Nat.zero_le _) dX6_mode_8
theorem tg_X6_moveLayer : xTgt yX6_moveLayer cX6_moveLayer 4 (some .int) 2 := ⟨ww_480, ww_86, by decide, by decide +kernel, by decide +kernel⟩
section
variable {Γ : xG} {p : Program} {l : Launch} {e : Env} {s : State} {m : MethodId} {args : Array Value} {below : List Frame} {meth : Method} {c : Code} {rF : Int32 ⊕ String} {wF : xW}
end
set_option maxRecDepth 100000 in
set_option maxHeartbeats 4000000 in
theorem ct_X6_moveLayer {Γ : xG} {l : Launch} (hl : l.stackTraces = false) (a0 : Nat) (x1 : Int32) (x2 : Int32) (w0 : xW) (rF : Int32 ⊕ String) (wF : xW) (hyp : f_X6_moveLayer a0 x1 x2 w0 = some (rF, wF)) : xMet Γ l yX6_moveLayer (xws yX6_moveLayer cX6_moveLayer 4 (some .int)) 6 xI [.ref a0, .int x1, .int x2] w0 rF wF (x_mc rF) (x_ms rF) := by
  refine xOfW tg_X6_moveLayer hl (lv0 := [(0, .ref a0), (1, .int x1), (2, .int x2)]) (Nat.le_of_ble_eq_true rfl) rfl ?_
  intro p e s m below meth c G hno hin
  rw [f_X6_moveLayer] at hyp
  refine r_aload_n G 0 dX6_moveLayer_0 rfl rfl ?_
  obtain ⟨v1, hv1, hyp⟩ := x_some hyp
  refine r_getv (C := RX6) (T := TX6) (N := 9) (ci := 6) G 1 (x_getr_e hv1) rfl uw_6 (Nat.le_of_ble_eq_true rfl) rfl ww_65 dX6_moveLayer_1 ?_
  refine r_aload_n G 0 dX6_moveLayer_4 rfl rfl ?_
  obtain ⟨v2, hv2, hyp⟩ := x_some hyp
  refine r_getv (C := RX6) (T := TX6) (N := 9) (ci := 6) G 0 (x_getr_e hv2) rfl uw_6 (Nat.le_of_ble_eq_true rfl) rfl ww_60 dX6_moveLayer_5 ?_
  refine r_ref hyp (fun a3 ha3 hz => ?_)
  clear hyp; subst ha3; have hyp := hz; clear hz
  obtain ⟨o6, hyp⟩ := x_chk hyp
  refine r_callV (ι := xV) (T := TX2) (N := 3) (ci := 2) (b := a3) (rest := []) (As := [va_rf v2]) G hno tg_X2_prepare (fun r w' h => ct_X2_prepare (xhl G) _ _ _ r w' h) o6 hyp rfl ww_129 ww_131 ww_130 (by decide) (by decide) rfl rfl (xroom (Nat.le_of_ble_eq_true rfl)) dX6_moveLayer_8 (push := (fun _ => [])) (fun _ => rfl) (fun _ w4 hyp => ?_)
  refine r_aload_n G 0 dX6_moveLayer_11 rfl rfl ?_
  refine r_iload_n G 1 dX6_moveLayer_12 rfl rfl ?_
  refine r_iload_n G 2 dX6_moveLayer_13 rfl rfl ?_
  obtain ⟨o9, hyp⟩ := x_chk hyp
  refine r_callV (ι := xI) (T := TX6) (N := 9) (ci := 6) (b := a0) (rest := []) (As := [.int x1, .int x2]) G hno tg_X6_moveAndCompare (fun r w' h => ct_X6_moveAndCompare (xhl G) _ _ _ _ r w' h) o9 hyp rfl ww_287 ww_289 ww_288 (by decide) (by decide) rfl rfl (xroom (Nat.le_of_ble_eq_true rfl)) dX6_moveLayer_14 (push := (fun r8 => [.int r8])) (fun _ => rfl) (fun r8 w7 hyp => ?_)
  refine r_istore_n (lv' := [(3, .int r8), (0, .ref a0), (1, .int x1), (2, .int x2)]) G dX6_moveLayer_17 rfl (by decide) ⟨fun _ => rfl, fun _ => rfl, fun _ => rfl, trivial⟩ rfl ?_
  refine r_iload_n G 0 dX6_moveLayer_18 rfl rfl ?_
  refine r_bipush (v := (-2)) G dX6_moveLayer_19 (by decide) ?_
  refine r_icmp_ne G 34 dX6_moveLayer_21 (by decide) hyp (fun c10 hyp => ?_) (fun c10 hyp => ?_)
  · refine r_aload_n G 1 dX6_moveLayer_34 rfl rfl ?_
    obtain ⟨v11, hv11, hyp⟩ := x_some hyp
    refine r_getv (C := RX6) (T := TX6) (N := 9) (ci := 6) G 1 (x_getr_e hv11) rfl uw_6 (Nat.le_of_ble_eq_true rfl) rfl ww_65 dX6_moveLayer_35 ?_
    refine r_ref hyp (fun a12 ha12 hz => ?_)
    clear hyp; subst ha12; have hyp := hz; clear hz
    obtain ⟨o15, hyp⟩ := x_chk hyp
    refine r_callV (ι := xV) (T := TX2) (N := 3) (ci := 2) (b := a12) (rest := []) (As := []) G hno tg_X2_commit (fun r w' h => ct_X2_commit (xhl G) _ _ r w' h) o15 hyp rfl ww_135 ww_137 ww_136 (by decide) (by decide) rfl rfl (xroom (Nat.le_of_ble_eq_true rfl)) dX6_moveLayer_38 (push := (fun _ => [])) (fun _ => rfl) (fun _ w13 hyp => ?_)
    refine r_iload_n G 0 dX6_moveLayer_41 rfl rfl ?_
    exact r_iret G hyp rfl (Nat.zero_le _) (Nat.zero_le _) dX6_moveLayer_42
  · exact r_throw 2 G hno hyp th_RX6_89 lit_2 (by decide) dX6_moveLayer_24 dX6_moveLayer_27 dX6_moveLayer_28 dX6_moveLayer_30 dX6_moveLayer_33
theorem tg_X5_charAt : xTgt yX5_charAt cX5_charAt 2 (some .char) 1 := ⟨ww_481, ww_56, by decide, by decide +kernel, by decide +kernel⟩
section
variable {Γ : xG} {p : Program} {l : Launch} {e : Env} {s : State} {m : MethodId} {args : Array Value} {below : List Frame} {meth : Method} {c : Code} {rF : Int32 ⊕ String} {wF : xW}
end
set_option maxRecDepth 100000 in
set_option maxHeartbeats 4000000 in
theorem ct_X5_charAt {Γ : xG} {l : Launch} (hl : l.stackTraces = false) (a0 : Nat) (x1 : Int32) (w0 : xW) (rF : Int32 ⊕ String) (wF : xW) (hyp : f_X5_charAt a0 x1 w0 = some (rF, wF)) : xMet Γ l yX5_charAt (xws yX5_charAt cX5_charAt 2 (some .char)) 0 xI [.ref a0, .int x1] w0 rF wF (x_mc rF) (x_ms rF) := by
  refine xOfW tg_X5_charAt hl (lv0 := [(0, .ref a0), (1, .int x1)]) (Nat.le_of_ble_eq_true rfl) rfl ?_
  intro p e s m below meth c G hno hin
  rw [f_X5_charAt] at hyp
  refine r_iload_n G 1 dX5_charAt_0 rfl rfl ?_
  refine r_if_lt G 22 dX5_charAt_1 (by decide) hyp (fun c1 hyp => ?_) (fun c1 hyp => ?_)
  · refine r_bipush (v := 32) G dX5_charAt_22 (by decide) ?_
    exact r_iret G hyp (by decide) (Nat.zero_le _) (Nat.zero_le _) dX5_charAt_24
  · refine r_iload_n G 1 dX5_charAt_4 rfl rfl ?_
    refine r_aload_n G 0 dX5_charAt_5 rfl rfl ?_
    obtain ⟨v2, hv2, hyp⟩ := x_some hyp
    refine r_getv (C := RX5) (T := TX5) (N := 2) (ci := 5) G 0 (x_getr_e hv2) rfl uw_5 (Nat.le_of_ble_eq_true rfl) rfl ww_53 dX5_charAt_6 ?_
    refine r_ref hyp (fun a3 ha3 hz => ?_)
    clear hyp; subst ha3; have hyp := hz; clear hz
    obtain ⟨v4, hv4, hyp⟩ := x_some hyp
    refine r_len G hv4 dX5_charAt_9 ?_
    refine r_icmp_ge G 22 dX5_charAt_10 (by decide) hyp (fun c5 hyp => ?_) (fun c5 hyp => ?_)
    · refine r_bipush (v := 32) G dX5_charAt_22 (by decide) ?_
      exact r_iret G hyp (by decide) (Nat.zero_le _) (Nat.zero_le _) dX5_charAt_24
    · refine r_aload_n G 0 dX5_charAt_13 rfl rfl ?_
      obtain ⟨v6, hv6, hyp⟩ := x_some hyp
      refine r_getv (C := RX5) (T := TX5) (N := 2) (ci := 5) G 0 (x_getr_e hv6) rfl uw_5 (Nat.le_of_ble_eq_true rfl) rfl ww_53 dX5_charAt_14 ?_
      refine r_iload_n G 1 dX5_charAt_17 rfl rfl ?_
      refine r_ref hyp (fun a7 ha7 hz => ?_)
      clear hyp; subst ha7; have hyp := hz; clear hz
      obtain ⟨v8, hv8, hyp⟩ := x_some hyp
      refine r_cald G hv8 dX5_charAt_18 ?_
      refine r_goto G 24 dX5_charAt_19 (by decide) ?_
      obtain ⟨h9, hyp⟩ := x_chk hyp
      exact r_iret G hyp (xnc h9).1 (Nat.zero_le _) (Nat.zero_le _) dX5_charAt_24
theorem tg_X6_outputChar : xTgt yX6_outputChar cX6_outputChar 2 (some .char) 1 := ⟨ww_486, ww_86, by decide, by decide +kernel, by decide +kernel⟩
section
variable {Γ : xG} {p : Program} {l : Launch} {e : Env} {s : State} {m : MethodId} {args : Array Value} {below : List Frame} {meth : Method} {c : Code} {rF : Int32 ⊕ String} {wF : xW}
end
set_option maxRecDepth 100000 in
set_option maxHeartbeats 4000000 in
theorem ct_X6_outputChar {Γ : xG} {l : Launch} (hl : l.stackTraces = false) (a0 : Nat) (x1 : Int32) (w0 : xW) (rF : Int32 ⊕ String) (wF : xW) (hyp : f_X6_outputChar a0 x1 w0 = some (rF, wF)) : xMet Γ l yX6_outputChar (xws yX6_outputChar cX6_outputChar 2 (some .char)) 6 xI [.ref a0, .int x1] w0 rF wF (x_mc rF) (x_ms rF) := by
  refine xOfW tg_X6_outputChar hl (lv0 := [(0, .ref a0), (1, .int x1)]) (Nat.le_of_ble_eq_true rfl) rfl ?_
  intro p e s m below meth c G hno hin
  rw [f_X6_outputChar] at hyp
  refine r_iload_n G 1 dX6_outputChar_0 rfl rfl ?_
  refine r_if_lt G 15 dX6_outputChar_1 (by decide) hyp (fun c1 hyp => ?_) (fun c1 hyp => ?_)
  · exact r_throwW 31 G hno hyp th_RX6_89 lit_31 (by decide) dX6_outputChar_15 dX6_outputChar_18 dX6_outputChar_19 dX6_outputChar_22 dX6_outputChar_25
  · refine r_iload_n G 1 dX6_outputChar_4 rfl rfl ?_
    refine r_aload_n G 0 dX6_outputChar_5 rfl rfl ?_
    obtain ⟨v2, hv2, hyp⟩ := x_some hyp
    refine r_getv (C := RX6) (T := TX6) (N := 9) (ci := 6) G 6 (x_getr_e hv2) rfl uw_6 (Nat.le_of_ble_eq_true rfl) rfl ww_82 dX6_outputChar_6 ?_
    refine r_ref hyp (fun a3 ha3 hz => ?_)
    clear hyp; subst ha3; have hyp := hz; clear hz
    obtain ⟨v4, hv4, hyp⟩ := x_some hyp
    refine r_getvN (C := RX5) (T := TX5) (N := 2) (ci := 5) G 1 (x_geti_e hv4) rfl uw_5 (Nat.le_of_ble_eq_true rfl) rfl ww_482 dX6_outputChar_9 ?_
    refine r_icmp_lt G 26 dX6_outputChar_12 (by decide) hyp (fun c5 hyp => ?_) (fun c5 hyp => ?_)
    · refine r_aload_n G 0 dX6_outputChar_26 rfl rfl ?_
      obtain ⟨v6, hv6, hyp⟩ := x_some hyp
      refine r_getv (C := RX6) (T := TX6) (N := 9) (ci := 6) G 6 (x_getr_e hv6) rfl uw_6 (Nat.le_of_ble_eq_true rfl) rfl ww_82 dX6_outputChar_27 ?_
      refine r_iload_n G 1 dX6_outputChar_30 rfl rfl ?_
      refine r_ref hyp (fun a7 ha7 hz => ?_)
      clear hyp; subst ha7; have hyp := hz; clear hz
      obtain ⟨o10, hyp⟩ := x_chk hyp
      refine r_callV (ι := xI) (T := TX5) (N := 2) (ci := 5) (b := a7) (rest := []) (As := [.int x1]) G hno tg_X5_charAt (fun r w' h => ct_X5_charAt (xhl G) _ _ _ r w' h) o10 hyp rfl ww_483 ww_485 ww_484 (by decide) (by decide) rfl rfl (xroom (Nat.le_of_ble_eq_true rfl)) dX6_outputChar_31 (push := (fun r9 => [.int r9])) (fun _ => rfl) (fun r9 w8 hyp => ?_)
      obtain ⟨h11, hyp⟩ := x_chk hyp
      exact r_iret G hyp (xnc h11).1 (Nat.zero_le _) (Nat.zero_le _) dX6_outputChar_34
    · exact r_throwW 31 G hno hyp th_RX6_89 lit_31 (by decide) dX6_outputChar_15 dX6_outputChar_18 dX6_outputChar_19 dX6_outputChar_22 dX6_outputChar_25
theorem tg_X6_paint : xTgt yX6_paint cX6_paint 8 (some .int) 6 := ⟨ww_487, ww_86, by decide, by decide +kernel, by decide +kernel⟩
section
variable {Γ : xG} {p : Program} {l : Launch} {e : Env} {s : State} {m : MethodId} {args : Array Value} {below : List Frame} {meth : Method} {c : Code} {rF : Int32 ⊕ String} {wF : xW}
end
set_option maxRecDepth 100000 in
set_option maxHeartbeats 4000000 in
theorem ct_X6_paint {Γ : xG} {l : Launch} (hl : l.stackTraces = false) (a0 : Nat) (x1 : Int32) (x2 : Int32) (x3 : Int32) (x4 : Int32) (x5 : Int32) (x6 : Int32) (w0 : xW) (rF : Int32 ⊕ String) (wF : xW) (hyp : f_X6_paint a0 x1 x2 x3 x4 x5 x6 w0 = some (rF, wF)) : xMet Γ l yX6_paint (xws yX6_paint cX6_paint 8 (some .int)) 6 xI [.ref a0, .int x1, .int x2, .int x3, .int x4, .int x5, .int x6] w0 rF wF (x_mc rF) (x_ms rF) := by
  refine xOfW tg_X6_paint hl (lv0 := [(0, .ref a0), (1, .int x1), (2, .int x2), (3, .int x3), (4, .int x4), (5, .int x5), (6, .int x6)]) (Nat.le_of_ble_eq_true rfl) rfl ?_
  intro p e s m below meth c G hno hin
  rw [f_X6_paint] at hyp
  refine r_aload_n G 0 dX6_paint_0 rfl rfl ?_
  obtain ⟨v1, hv1, hyp⟩ := x_some hyp
  refine r_getv (C := RX6) (T := TX6) (N := 9) (ci := 6) G 1 (x_getr_e hv1) rfl uw_6 (Nat.le_of_ble_eq_true rfl) rfl ww_65 dX6_paint_1 ?_
  refine r_aload_n G 0 dX6_paint_4 rfl rfl ?_
  obtain ⟨v2, hv2, hyp⟩ := x_some hyp
  refine r_getv (C := RX6) (T := TX6) (N := 9) (ci := 6) G 0 (x_getr_e hv2) rfl uw_6 (Nat.le_of_ble_eq_true rfl) rfl ww_60 dX6_paint_5 ?_
  refine r_ref hyp (fun a3 ha3 hz => ?_)
  clear hyp; subst ha3; have hyp := hz; clear hz
  obtain ⟨o6, hyp⟩ := x_chk hyp
  refine r_callV (ι := xV) (T := TX2) (N := 3) (ci := 2) (b := a3) (rest := []) (As := [va_rf v2]) G hno tg_X2_prepare (fun r w' h => ct_X2_prepare (xhl G) _ _ _ r w' h) o6 hyp rfl ww_129 ww_131 ww_130 (by decide) (by decide) rfl rfl (xroom (Nat.le_of_ble_eq_true rfl)) dX6_paint_8 (push := (fun _ => [])) (fun _ => rfl) (fun _ w4 hyp => ?_)
  refine r_aload_n G 0 dX6_paint_11 rfl rfl ?_
  obtain ⟨v7, hv7, hyp⟩ := x_some hyp
  refine r_getv (C := RX6) (T := TX6) (N := 9) (ci := 6) G 0 (x_getr_e hv7) rfl uw_6 (Nat.le_of_ble_eq_true rfl) rfl ww_60 dX6_paint_12 ?_
  refine r_iload_n G 1 dX6_paint_15 rfl rfl ?_
  refine r_iload_n G 2 dX6_paint_16 rfl rfl ?_
  refine r_iload_n G 3 dX6_paint_17 rfl rfl ?_
  refine r_iload G 4 dX6_paint_18 rfl ?_
  refine r_iload G 5 dX6_paint_20 rfl ?_
  refine r_iload G 6 dX6_paint_22 rfl ?_
  refine r_ref hyp (fun a8 ha8 hz => ?_)
  clear hyp; subst ha8; have hyp := hz; clear hz
  obtain ⟨o11, hyp⟩ := x_chk hyp
  refine r_callV (ι := xI) (T := TX4) (N := 4) (ci := 4) (b := a8) (rest := []) (As := [.int x1, .int x2, .int x3, .int x4, .int x5, .int x6]) G hno tg_X4_paintRectangle (fun r w' h => ct_X4_paintRectangle (xhl G) _ _ _ _ _ _ _ _ r w' h) o11 hyp rfl ww_275 ww_277 ww_276 (by decide) (by decide) rfl rfl (xroom (Nat.le_of_ble_eq_true rfl)) dX6_paint_24 (push := (fun r10 => [.int r10])) (fun _ => rfl) (fun r10 w9 hyp => ?_)
  refine r_istore (lv' := [(7, .int r10), (0, .ref a0), (1, .int x1), (2, .int x2), (3, .int x3), (4, .int x4), (5, .int x5), (6, .int x6)]) G dX6_paint_27 (by decide) ⟨fun _ => rfl, fun _ => rfl, fun _ => rfl, fun _ => rfl, fun _ => rfl, fun _ => rfl, fun _ => rfl, trivial⟩ rfl ?_
  refine r_iload G 0 dX6_paint_29 rfl ?_
  refine r_bipush (v := (-2)) G dX6_paint_31 (by decide) ?_
  refine r_icmp_ne G 46 dX6_paint_33 (by decide) hyp (fun c12 hyp => ?_) (fun c12 hyp => ?_)
  · refine r_iload G 0 dX6_paint_46 rfl ?_
    refine r_bipush (v := (-3)) G dX6_paint_48 (by decide) ?_
    refine r_icmp_ne G 63 dX6_paint_50 (by decide) hyp (fun c13 hyp => ?_) (fun c13 hyp => ?_)
    · refine r_aload_n G 1 dX6_paint_63 rfl rfl ?_
      obtain ⟨v14, hv14, hyp⟩ := x_some hyp
      refine r_getv (C := RX6) (T := TX6) (N := 9) (ci := 6) G 1 (x_getr_e hv14) rfl uw_6 (Nat.le_of_ble_eq_true rfl) rfl ww_65 dX6_paint_64 ?_
      refine r_ref hyp (fun a15 ha15 hz => ?_)
      clear hyp; subst ha15; have hyp := hz; clear hz
      obtain ⟨o18, hyp⟩ := x_chk hyp
      refine r_callV (ι := xV) (T := TX2) (N := 3) (ci := 2) (b := a15) (rest := []) (As := []) G hno tg_X2_commit (fun r w' h => ct_X2_commit (xhl G) _ _ r w' h) o18 hyp rfl ww_135 ww_137 ww_136 (by decide) (by decide) rfl rfl (xroom (Nat.le_of_ble_eq_true rfl)) dX6_paint_67 (push := (fun _ => [])) (fun _ => rfl) (fun _ w16 hyp => ?_)
      refine r_iload G 0 dX6_paint_70 rfl ?_
      exact r_iret G hyp rfl (Nat.zero_le _) (Nat.zero_le _) dX6_paint_72
    · exact r_throw 4 G hno hyp th_RX6_70 lit_4 (by decide) dX6_paint_53 dX6_paint_56 dX6_paint_57 dX6_paint_59 dX6_paint_62
  · exact r_throw 3 G hno hyp th_RX6_89 lit_3 (by decide) dX6_paint_36 dX6_paint_39 dX6_paint_40 dX6_paint_42 dX6_paint_45
theorem tg_X6_painted : xTgt yX6_painted cX6_painted 2 (some .int) 1 := ⟨ww_488, ww_86, by decide, by decide +kernel, by decide +kernel⟩
section
variable {Γ : xG} {p : Program} {l : Launch} {e : Env} {s : State} {m : MethodId} {args : Array Value} {below : List Frame} {meth : Method} {c : Code} {rF : Int32 ⊕ String} {wF : xW}
end
set_option maxRecDepth 100000 in
set_option maxHeartbeats 4000000 in
theorem ct_X6_painted {Γ : xG} {l : Launch} (hl : l.stackTraces = false) (a0 : Nat) (x1 : Int32) (w0 : xW) (rF : Int32 ⊕ String) (wF : xW) (hyp : f_X6_painted a0 x1 w0 = some (rF, wF)) : xMet Γ l yX6_painted (xws yX6_painted cX6_painted 2 (some .int)) 7 xI [.ref a0, .int x1] w0 rF wF (x_mc rF) (x_ms rF) := by
  refine xOfW tg_X6_painted hl (lv0 := [(0, .ref a0), (1, .int x1)]) (Nat.le_of_ble_eq_true rfl) rfl ?_
  intro p e s m below meth c G hno hin
  rw [f_X6_painted] at hyp
  refine r_aload_n G 0 dX6_painted_0 rfl rfl ?_
  refine r_iload_n G 1 dX6_painted_1 rfl rfl ?_
  obtain ⟨o3, hyp⟩ := x_chk hyp
  refine r_callV (ι := xQ) (T := TX6) (N := 9) (ci := 6) (b := a0) (rest := []) (As := [.int x1]) G hno tg_X6_existingLayer (fun r w' h => ct_X6_existingLayer (xhl G) _ _ _ r w' h) o3 hyp rfl ww_394 ww_396 ww_395 (by decide) (by decide) rfl rfl (xroom (Nat.le_of_ble_eq_true rfl)) dX6_painted_2 (push := (fun r2 => [va_rf r2])) (fun _ => rfl) (fun r2 w1 hyp => ?_)
  refine r_ref hyp (fun a4 ha4 hz => ?_)
  clear hyp; subst ha4; have hyp := hz; clear hz
  obtain ⟨o7, hyp⟩ := x_chk hyp
  refine r_callV (ι := xI) (T := TX3) (N := 3) (ci := 3) (b := a4) (rest := []) (As := []) G hno tg_X3_countTones (fun r w' h => ct_X3_countTones (xhl G) _ _ r w' h) o7 hyp rfl ww_387 ww_234 ww_233 (by decide) (by decide) rfl rfl (xroom (Nat.le_of_ble_eq_true rfl)) dX6_painted_5 (push := (fun r6 => [.int r6])) (fun _ => rfl) (fun r6 w5 hyp => ?_)
  exact r_iret G hyp rfl (Nat.zero_le _) (Nat.zero_le _) dX6_painted_8
theorem tg_X6_paintedCells : xTgt yX6_paintedCells cX6_paintedCells 1 (some .int) 0 := ⟨ww_490, ww_86, by decide, by decide +kernel, by decide +kernel⟩
section
variable {Γ : xG} {p : Program} {l : Launch} {e : Env} {s : State} {m : MethodId} {args : Array Value} {below : List Frame} {meth : Method} {c : Code} {rF : Int32 ⊕ String} {wF : xW}
end
set_option maxRecDepth 100000 in
set_option maxHeartbeats 4000000 in
theorem ct_X6_paintedCells {Γ : xG} {l : Launch} (hl : l.stackTraces = false) (a0 : Nat) (w0 : xW) (rF : Int32 ⊕ String) (wF : xW) (hyp : f_X6_paintedCells a0 w0 = some (rF, wF)) : xMet Γ l yX6_paintedCells (xws yX6_paintedCells cX6_paintedCells 1 (some .int)) 0 xI [.ref a0] w0 rF wF (x_mc rF) (x_ms rF) := by
  refine xOfW tg_X6_paintedCells hl (lv0 := [(0, .ref a0)]) (Nat.le_of_ble_eq_true rfl) rfl ?_
  intro p e s m below meth c G hno hin
  rw [f_X6_paintedCells] at hyp
  refine r_aload_n G 0 dX6_paintedCells_0 rfl rfl ?_
  obtain ⟨v1, hv1, hyp⟩ := x_some hyp
  refine r_getv (C := RX6) (T := TX6) (N := 9) (ci := 6) G 0 (x_getr_e hv1) rfl uw_6 (Nat.le_of_ble_eq_true rfl) rfl ww_60 dX6_paintedCells_1 ?_
  refine r_ref hyp (fun a2 ha2 hz => ?_)
  clear hyp; subst ha2; have hyp := hz; clear hz
  obtain ⟨v3, hv3, hyp⟩ := x_some hyp
  refine r_getvN (C := RX4) (T := TX4) (N := 4) (ci := 4) G 2 (x_geti_e hv3) rfl uw_4 (Nat.le_of_ble_eq_true rfl) rfl ww_489 dX6_paintedCells_4 ?_
  exact r_iret G hyp rfl (Nat.zero_le _) (Nat.zero_le _) dX6_paintedCells_7
theorem tg_X6_removeLayer : xTgt yX6_removeLayer cX6_removeLayer 3 (some .int) 1 := ⟨ww_492, ww_86, by decide, by decide +kernel, by decide +kernel⟩
section
variable {Γ : xG} {p : Program} {l : Launch} {e : Env} {s : State} {m : MethodId} {args : Array Value} {below : List Frame} {meth : Method} {c : Code} {rF : Int32 ⊕ String} {wF : xW}
end
set_option maxRecDepth 100000 in
set_option maxHeartbeats 4000000 in
theorem ct_X6_removeLayer {Γ : xG} {l : Launch} (hl : l.stackTraces = false) (a0 : Nat) (x1 : Int32) (w0 : xW) (rF : Int32 ⊕ String) (wF : xW) (hyp : f_X6_removeLayer a0 x1 w0 = some (rF, wF)) : xMet Γ l yX6_removeLayer (xws yX6_removeLayer cX6_removeLayer 3 (some .int)) 6 xI [.ref a0, .int x1] w0 rF wF (x_mc rF) (x_ms rF) := by
  refine xOfW tg_X6_removeLayer hl (lv0 := [(0, .ref a0), (1, .int x1)]) (Nat.le_of_ble_eq_true rfl) rfl ?_
  intro p e s m below meth c G hno hin
  rw [f_X6_removeLayer] at hyp
  refine r_aload_n G 0 dX6_removeLayer_0 rfl rfl ?_
  obtain ⟨v1, hv1, hyp⟩ := x_some hyp
  refine r_getv (C := RX6) (T := TX6) (N := 9) (ci := 6) G 1 (x_getr_e hv1) rfl uw_6 (Nat.le_of_ble_eq_true rfl) rfl ww_65 dX6_removeLayer_1 ?_
  refine r_aload_n G 0 dX6_removeLayer_4 rfl rfl ?_
  obtain ⟨v2, hv2, hyp⟩ := x_some hyp
  refine r_getv (C := RX6) (T := TX6) (N := 9) (ci := 6) G 0 (x_getr_e hv2) rfl uw_6 (Nat.le_of_ble_eq_true rfl) rfl ww_60 dX6_removeLayer_5 ?_
  refine r_ref hyp (fun a3 ha3 hz => ?_)
  clear hyp; subst ha3; have hyp := hz; clear hz
  obtain ⟨o6, hyp⟩ := x_chk hyp
  refine r_callV (ι := xV) (T := TX2) (N := 3) (ci := 2) (b := a3) (rest := []) (As := [va_rf v2]) G hno tg_X2_prepare (fun r w' h => ct_X2_prepare (xhl G) _ _ _ r w' h) o6 hyp rfl ww_129 ww_131 ww_130 (by decide) (by decide) rfl rfl (xroom (Nat.le_of_ble_eq_true rfl)) dX6_removeLayer_8 (push := (fun _ => [])) (fun _ => rfl) (fun _ w4 hyp => ?_)
  refine r_aload_n G 0 dX6_removeLayer_11 rfl rfl ?_
  obtain ⟨v7, hv7, hyp⟩ := x_some hyp
  refine r_getv (C := RX6) (T := TX6) (N := 9) (ci := 6) G 0 (x_getr_e hv7) rfl uw_6 (Nat.le_of_ble_eq_true rfl) rfl ww_60 dX6_removeLayer_12 ?_
  refine r_iload_n G 1 dX6_removeLayer_15 rfl rfl ?_
  refine r_ref hyp (fun a8 ha8 hz => ?_)
  clear hyp; subst ha8; have hyp := hz; clear hz
  obtain ⟨o11, hyp⟩ := x_chk hyp
  refine r_callV (ι := xI) (T := TX4) (N := 4) (ci := 4) (b := a8) (rest := []) (As := [.int x1]) G hno tg_X4_takeAway (fun r w' h => ct_X4_takeAway (xhl G) _ _ _ r w' h) o11 hyp rfl ww_491 ww_255 ww_254 (by decide) (by decide) rfl rfl (xroom (Nat.le_of_ble_eq_true rfl)) dX6_removeLayer_16 (push := (fun r10 => [.int r10])) (fun _ => rfl) (fun r10 w9 hyp => ?_)
  refine r_istore_n (lv' := [(2, .int r10), (0, .ref a0), (1, .int x1)]) G dX6_removeLayer_19 rfl (by decide) ⟨fun _ => rfl, fun _ => rfl, trivial⟩ rfl ?_
  refine r_iload_n G 0 dX6_removeLayer_20 rfl rfl ?_
  refine r_bipush (v := (-2)) G dX6_removeLayer_21 (by decide) ?_
  refine r_icmp_ne G 36 dX6_removeLayer_23 (by decide) hyp (fun c12 hyp => ?_) (fun c12 hyp => ?_)
  · refine r_aload_n G 1 dX6_removeLayer_36 rfl rfl ?_
    obtain ⟨v13, hv13, hyp⟩ := x_some hyp
    refine r_getv (C := RX6) (T := TX6) (N := 9) (ci := 6) G 1 (x_getr_e hv13) rfl uw_6 (Nat.le_of_ble_eq_true rfl) rfl ww_65 dX6_removeLayer_37 ?_
    refine r_ref hyp (fun a14 ha14 hz => ?_)
    clear hyp; subst ha14; have hyp := hz; clear hz
    obtain ⟨o17, hyp⟩ := x_chk hyp
    refine r_callV (ι := xV) (T := TX2) (N := 3) (ci := 2) (b := a14) (rest := []) (As := []) G hno tg_X2_commit (fun r w' h => ct_X2_commit (xhl G) _ _ r w' h) o17 hyp rfl ww_135 ww_137 ww_136 (by decide) (by decide) rfl rfl (xroom (Nat.le_of_ble_eq_true rfl)) dX6_removeLayer_40 (push := (fun _ => [])) (fun _ => rfl) (fun _ w15 hyp => ?_)
    refine r_iload_n G 0 dX6_removeLayer_43 rfl rfl ?_
    exact r_iret G hyp rfl (Nat.zero_le _) (Nat.zero_le _) dX6_removeLayer_44
  · exact r_throw 2 G hno hyp th_RX6_89 lit_2 (by decide) dX6_removeLayer_26 dX6_removeLayer_29 dX6_removeLayer_30 dX6_removeLayer_32 dX6_removeLayer_35
theorem tg_X6_requireRectangle : xTgt yX6_requireRectangle cX6_requireRectangle 4 none 4 := ⟨ww_493, ww_86, by decide, by decide +kernel, by decide +kernel⟩
section
variable {Γ : xG} {p : Program} {l : Launch} {e : Env} {s : State} {m : MethodId} {args : Array Value} {below : List Frame} {meth : Method} {c : Code} {rF : Unit ⊕ String} {wF : xW}
end
set_option maxRecDepth 100000 in
set_option maxHeartbeats 4000000 in
theorem ct_X6_requireRectangle {Γ : xG} {l : Launch} (hl : l.stackTraces = false) (x0 : Int32) (x1 : Int32) (x2 : Int32) (x3 : Int32) (w0 : xW) (rF : Unit ⊕ String) (wF : xW) (hyp : f_X6_requireRectangle x0 x1 x2 x3 w0 = some (rF, wF)) : xMet Γ l yX6_requireRectangle (xws yX6_requireRectangle cX6_requireRectangle 4 none) 6 xV [.int x0, .int x1, .int x2, .int x3] w0 rF wF (x_mc rF) (x_ms rF) := by
  refine xOfW tg_X6_requireRectangle hl (lv0 := [(0, .int x0), (1, .int x1), (2, .int x2), (3, .int x3)]) (Nat.le_of_ble_eq_true rfl) rfl ?_
  intro p e s m below meth c G hno hin
  rw [f_X6_requireRectangle] at hyp
  refine r_iload_n G 0 dX6_requireRectangle_0 rfl rfl ?_
  refine r_iload_n G 1 dX6_requireRectangle_1 rfl rfl ?_
  refine r_callS (ι := xI) (rest := []) (As := [.int x0, .int x1]) G hno tg_X6_isCell (fun r w' h => ct_X6_isCell (xhl G) _ _ _ r w' h) hyp ww_198 ww_199 (by decide) (by decide) rfl rfl (xroom (Nat.le_of_ble_eq_true rfl)) dX6_requireRectangle_2 (push := (fun r2 => [.int r2])) (fun _ => rfl) (fun r2 w1 hyp => ?_)
  refine r_if_eq G 16 dX6_requireRectangle_5 (by decide) hyp (fun c3 hyp => ?_) (fun c3 hyp => ?_)
  · exact r_throw 11 G hno hyp th_RX6_89 lit_11 (by decide) dX6_requireRectangle_16 dX6_requireRectangle_19 dX6_requireRectangle_20 dX6_requireRectangle_22 dX6_requireRectangle_25
  · refine r_iload_n G 2 dX6_requireRectangle_8 rfl rfl ?_
    refine r_iload_n G 3 dX6_requireRectangle_9 rfl rfl ?_
    refine r_callS (ι := xI) (rest := []) (As := [.int x2, .int x3]) G hno tg_X6_isCell (fun r w' h => ct_X6_isCell (xhl G) _ _ _ r w' h) hyp ww_198 ww_199 (by decide) (by decide) rfl rfl (xroom (Nat.le_of_ble_eq_true rfl)) dX6_requireRectangle_10 (push := (fun r5 => [.int r5])) (fun _ => rfl) (fun r5 w4 hyp => ?_)
    refine r_if_ne G 26 dX6_requireRectangle_13 (by decide) hyp (fun c6 hyp => ?_) (fun c6 hyp => ?_)
    · refine r_iload_n G 0 dX6_requireRectangle_26 rfl rfl ?_
      refine r_iload_n G 2 dX6_requireRectangle_27 rfl rfl ?_
      refine r_icmp_gt G 36 dX6_requireRectangle_28 (by decide) hyp (fun c7 hyp => ?_) (fun c7 hyp => ?_)
      · exact r_throwW 15 G hno hyp th_RX6_70 lit_15 (by decide) dX6_requireRectangle_36 dX6_requireRectangle_39 dX6_requireRectangle_40 dX6_requireRectangle_43 dX6_requireRectangle_46
      · refine r_iload_n G 1 dX6_requireRectangle_31 rfl rfl ?_
        refine r_iload_n G 3 dX6_requireRectangle_32 rfl rfl ?_
        refine r_icmp_le G 47 dX6_requireRectangle_33 (by decide) hyp (fun c8 hyp => ?_) (fun c8 hyp => ?_)
        · exact r_vret G hyp (Nat.zero_le _) (Nat.zero_le _) dX6_requireRectangle_47
        · exact r_throwW 15 G hno hyp th_RX6_70 lit_15 (by decide) dX6_requireRectangle_36 dX6_requireRectangle_39 dX6_requireRectangle_40 dX6_requireRectangle_43 dX6_requireRectangle_46
    · exact r_throw 11 G hno hyp th_RX6_89 lit_11 (by decide) dX6_requireRectangle_16 dX6_requireRectangle_19 dX6_requireRectangle_20 dX6_requireRectangle_22 dX6_requireRectangle_25
theorem tg_X2_forgetAll : xTgt yX2_forgetAll cX2_forgetAll 1 none 0 := ⟨ww_494, ww_51, by decide, by decide +kernel, by decide +kernel⟩
section
variable {Γ : xG} {p : Program} {l : Launch} {e : Env} {s : State} {m : MethodId} {args : Array Value} {below : List Frame} {meth : Method} {c : Code} {rF : Unit ⊕ String} {wF : xW}
end
set_option maxRecDepth 100000 in
set_option maxHeartbeats 4000000 in
theorem ct_X2_forgetAll {Γ : xG} {l : Launch} (hl : l.stackTraces = false) (a0 : Nat) (w0 : xW) (rF : Unit ⊕ String) (wF : xW) (hyp : f_X2_forgetAll a0 w0 = some (rF, wF)) : xMet Γ l yX2_forgetAll (xws yX2_forgetAll cX2_forgetAll 1 none) 0 xV [.ref a0] w0 rF wF (x_mc rF) (x_ms rF) := by
  refine xOfW tg_X2_forgetAll hl (lv0 := [(0, .ref a0)]) (Nat.le_of_ble_eq_true rfl) rfl ?_
  intro p e s m below meth c G hno hin
  rw [f_X2_forgetAll] at hyp
  refine r_aload_n G 0 dX2_forgetAll_0 rfl rfl ?_
  refine r_iconst (v := 0) G dX2_forgetAll_1 (by decide) ?_
  obtain ⟨w1, hw1, hyp⟩ := x_some hyp
  refine r_putv (C := RX2) (T := TX2) (N := 3) (ci := 2) G tyX2 tyX2_ok nmX2 2 hw1 rfl uw_2 (Nat.le_of_ble_eq_true rfl) rfl ww_45 rfl rfl rfl dX2_forgetAll_2 ?_
  exact r_vret G hyp (Nat.zero_le _) (Nat.zero_le _) dX2_forgetAll_5
theorem tg_X6_restore : xTgt yX6_restore cX6_restore 1 (some .int) 0 := ⟨ww_499, ww_86, by decide, by decide +kernel, by decide +kernel⟩
section
variable {Γ : xG} {p : Program} {l : Launch} {e : Env} {s : State} {m : MethodId} {args : Array Value} {below : List Frame} {meth : Method} {c : Code} {rF : Int32 ⊕ String} {wF : xW}
end
set_option maxRecDepth 100000 in
set_option maxHeartbeats 4000000 in
theorem ct_X6_restore {Γ : xG} {l : Launch} (hl : l.stackTraces = false) (a0 : Nat) (w0 : xW) (rF : Int32 ⊕ String) (wF : xW) (hyp : f_X6_restore a0 w0 = some (rF, wF)) : xMet Γ l yX6_restore (xws yX6_restore cX6_restore 1 (some .int)) 6 xI [.ref a0] w0 rF wF (x_mc rF) (x_ms rF) := by
  refine xOfW tg_X6_restore hl (lv0 := [(0, .ref a0)]) (Nat.le_of_ble_eq_true rfl) rfl ?_
  intro p e s m below meth c G hno hin
  rw [f_X6_restore] at hyp
  refine r_aload_n G 0 dX6_restore_0 rfl rfl ?_
  obtain ⟨v1, hv1, hyp⟩ := x_some hyp
  refine r_getv (C := RX6) (T := TX6) (N := 9) (ci := 6) G 3 (x_geti_e hv1) rfl uw_6 (Nat.le_of_ble_eq_true rfl) rfl ww_67 dX6_restore_1 ?_
  refine r_if_ne G 18 dX6_restore_4 (by decide) hyp (fun c2 hyp => ?_) (fun c2 hyp => ?_)
  · refine r_aload_n G 0 dX6_restore_18 rfl rfl ?_
    obtain ⟨v3, hv3, hyp⟩ := x_some hyp
    refine r_getv (C := RX6) (T := TX6) (N := 9) (ci := 6) G 0 (x_getr_e hv3) rfl uw_6 (Nat.le_of_ble_eq_true rfl) rfl ww_60 dX6_restore_19 ?_
    refine r_aload_n G 0 dX6_restore_22 rfl rfl ?_
    obtain ⟨v4, hv4, hyp⟩ := x_some hyp
    refine r_getv (C := RX6) (T := TX6) (N := 9) (ci := 6) G 2 (x_getr_e hv4) rfl uw_6 (Nat.le_of_ble_eq_true rfl) rfl ww_66 dX6_restore_23 ?_
    refine r_ref hyp (fun a5 ha5 hz => ?_)
    clear hyp; subst ha5; have hyp := hz; clear hz
    obtain ⟨o8, hyp⟩ := x_chk hyp
    refine r_callV (ι := xV) (T := TX4) (N := 4) (ci := 4) (b := a5) (rest := []) (As := [va_rf v4]) G hno tg_X4_copyFrom (fun r w' h => ct_X4_copyFrom (xhl G) _ _ _ r w' h) o8 hyp rfl ww_495 ww_111 ww_110 (by decide) (by decide) rfl rfl (xroom (Nat.le_of_ble_eq_true rfl)) dX6_restore_26 (push := (fun _ => [])) (fun _ => rfl) (fun _ w6 hyp => ?_)
    refine r_aload_n G 0 dX6_restore_29 rfl rfl ?_
    obtain ⟨v9, hv9, hyp⟩ := x_some hyp
    refine r_getv (C := RX6) (T := TX6) (N := 9) (ci := 6) G 1 (x_getr_e hv9) rfl uw_6 (Nat.le_of_ble_eq_true rfl) rfl ww_65 dX6_restore_30 ?_
    refine r_ref hyp (fun a10 ha10 hz => ?_)
    clear hyp; subst ha10; have hyp := hz; clear hz
    obtain ⟨o13, hyp⟩ := x_chk hyp
    refine r_callV (ι := xV) (T := TX2) (N := 3) (ci := 2) (b := a10) (rest := []) (As := []) G hno tg_X2_forgetAll (fun r w' h => ct_X2_forgetAll (xhl G) _ _ r w' h) o13 hyp rfl ww_496 ww_498 ww_497 (by decide) (by decide) rfl rfl (xroom (Nat.le_of_ble_eq_true rfl)) dX6_restore_33 (push := (fun _ => [])) (fun _ => rfl) (fun _ w11 hyp => ?_)
    refine r_aload_n G 0 dX6_restore_36 rfl rfl ?_
    obtain ⟨v14, hv14, hyp⟩ := x_some hyp
    refine r_getv (C := RX6) (T := TX6) (N := 9) (ci := 6) G 0 (x_getr_e hv14) rfl uw_6 (Nat.le_of_ble_eq_true rfl) rfl ww_60 dX6_restore_37 ?_
    refine r_ref hyp (fun a15 ha15 hz => ?_)
    clear hyp; subst ha15; have hyp := hz; clear hz
    obtain ⟨v16, hv16, hyp⟩ := x_some hyp
    refine r_getvN (C := RX4) (T := TX4) (N := 4) (ci := 4) G 1 (x_geti_e hv16) rfl uw_4 (Nat.le_of_ble_eq_true rfl) rfl ww_474 dX6_restore_40 ?_
    exact r_iret G hyp rfl (Nat.zero_le _) (Nat.zero_le _) dX6_restore_43
  · exact r_throwW 33 G hno hyp th_RX6_77 lit_33 (by decide) dX6_restore_7 dX6_restore_10 dX6_restore_11 dX6_restore_14 dX6_restore_17
theorem tg_X0_clear : xTgt yX0_clear cX0_clear 1 none 0 := ⟨ww_500, ww_12, by decide, by decide +kernel, by decide +kernel⟩
section
variable {Γ : xG} {p : Program} {l : Launch} {e : Env} {s : State} {m : MethodId} {args : Array Value} {below : List Frame} {meth : Method} {c : Code} {rF : Unit ⊕ String} {wF : xW}
end
set_option maxRecDepth 100000 in
set_option maxHeartbeats 4000000 in
theorem ct_X0_clear {Γ : xG} {l : Launch} (hl : l.stackTraces = false) (a0 : Nat) (w0 : xW) (rF : Unit ⊕ String) (wF : xW) (hyp : f_X0_clear a0 w0 = some (rF, wF)) : xMet Γ l yX0_clear (xws yX0_clear cX0_clear 1 none) 0 xV [.ref a0] w0 rF wF (x_mc rF) (x_ms rF) := by
  refine xOfW tg_X0_clear hl (lv0 := [(0, .ref a0)]) (Nat.le_of_ble_eq_true rfl) rfl ?_
  intro p e s m below meth c G hno hin
  rw [f_X0_clear] at hyp
  refine r_aload_n G 0 dX0_clear_0 rfl rfl ?_
  refine r_iconst (v := 0) G dX0_clear_1 (by decide) ?_
  obtain ⟨w1, hw1, hyp⟩ := x_some hyp
  refine r_putv (C := RX0) (T := TX0) (N := 6) (ci := 0) G tyX0 tyX0_ok nmX0 1 hw1 rfl uw_0 (Nat.le_of_ble_eq_true rfl) rfl ww_5 rfl rfl rfl dX0_clear_2 ?_
  exact r_vret G hyp (Nat.zero_le _) (Nat.zero_le _) dX0_clear_5
theorem tg_X0_countCommands : xTgt yX0_countCommands cX0_countCommands 2 (some .int) 0 := ⟨ww_504, ww_12, by decide, by decide +kernel, by decide +kernel⟩
section
variable {Γ : xG} {p : Program} {l : Launch} {e : Env} {s : State} {m : MethodId} {args : Array Value} {below : List Frame} {meth : Method} {c : Code} {rF : Int32 ⊕ String} {wF : xW}
set_option maxRecDepth 100000 in
set_option maxHeartbeats 4000000 in
theorem nd_X0_countCommands_L6 (G : xCx Γ p l s m args meth c RX0 cX0_countCommands 2 (some .int)) (hno : ∀ x ∈ c.exceptionTable.toList, False) : ∀ (n : Nat) (a0 : Nat) (x1 : Int32) (w0 : xW), f_X0_countCommands_L6 n a0 x1 w0 = some (rF, wF) → xAW Γ p l e (xRm 6 (x_mc rF) (x_ms rF)) s m args below meth c 2 (xQm Γ below xI rF wF args s (x_mc rF) (x_ms rF)) w0 0 0 6 [(0, .ref a0), (1, .int x1)] [] := by
  intro n
  induction n with
  | zero =>
    intro a0 x1 w0 hyp
    cases (show (none : xO Int32) = some (rF, wF) from hyp)
  | succ n ih =>
    intro a0 x1 w0 hyp
    rw [f_X0_countCommands_L6] at hyp
    refine r_iload_n G 1 dX0_countCommands_6 rfl rfl ?_
    refine r_bipush (v := 60) G dX0_countCommands_7 (by decide) ?_
    refine r_icmp_gt G 49 dX0_countCommands_9 (by decide) hyp (fun c4 hyp => ?_) (fun c4 hyp => ?_)
    · refine r_iconst (v := (-1)) G dX0_countCommands_49 (by decide) ?_
      exact r_iret G hyp rfl (Nat.zero_le _) (Nat.zero_le _) dX0_countCommands_50
    · refine r_aload_n G 0 dX0_countCommands_12 rfl rfl ?_
      obtain ⟨o7, hyp⟩ := x_chk hyp
      refine r_callV (ι := xI) (T := TX0) (N := 6) (ci := 0) (b := a0) (rest := []) (As := []) G hno tg_X0_readCommand (fun r w' h => ct_X0_readCommand (xhl G) _ _ r w' h) o7 hyp rfl ww_502 ww_332 ww_331 (by decide) (by decide) rfl rfl (xroom (Nat.le_of_ble_eq_true rfl)) dX0_countCommands_13 (push := (fun r6 => [.int r6])) (fun _ => rfl) (fun r6 w5 hyp => ?_)
      refine r_if_ne G 21 dX0_countCommands_16 (by decide) hyp (fun c8 hyp => ?_) (fun c8 hyp => ?_)
      · refine r_aload_n G 0 dX0_countCommands_21 rfl rfl ?_
        obtain ⟨v9, hv9, hyp⟩ := x_some hyp
        refine r_getv (C := RX0) (T := TX0) (N := 6) (ci := 0) G 2 (x_geti_e hv9) rfl uw_0 (Nat.le_of_ble_eq_true rfl) rfl ww_6 dX0_countCommands_22 ?_
        refine r_aload_n G 0 dX0_countCommands_25 rfl rfl ?_
        obtain ⟨v10, hv10, hyp⟩ := x_some hyp
        refine r_getv (C := RX0) (T := TX0) (N := 6) (ci := 0) G 1 (x_geti_e hv10) rfl uw_0 (Nat.le_of_ble_eq_true rfl) rfl ww_5 dX0_countCommands_26 ?_
        refine r_icmp_lt G 34 dX0_countCommands_29 (by decide) hyp (fun c11 hyp => ?_) (fun c11 hyp => ?_)
        · refine r_aload_n G 0 dX0_countCommands_34 rfl rfl ?_
          obtain ⟨o14, hyp⟩ := x_chk hyp
          refine r_callV (ι := xI) (T := TX0) (N := 6) (ci := 0) (b := a0) (rest := []) (As := []) G hno tg_X0_skipSeparator (fun r w' h => ct_X0_skipSeparator (xhl G) _ _ r w' h) o14 hyp rfl ww_503 ww_338 ww_337 (by decide) (by decide) rfl rfl (xroom (Nat.le_of_ble_eq_true rfl)) dX0_countCommands_35 (push := (fun r13 => [.int r13])) (fun _ => rfl) (fun r13 w12 hyp => ?_)
          refine r_if_ne G 43 dX0_countCommands_38 (by decide) hyp (fun c15 hyp => ?_) (fun c15 hyp => ?_)
          · refine r_iinc (v := (x1 + 1)) (lv' := [(1, .int (x1 + 1)), (0, .ref a0)]) G 1 dX0_countCommands_43 rfl rfl (by decide) ⟨fun _ => rfl, fun _ => rfl, trivial⟩ rfl ?_
            refine r_goto G 6 dX0_countCommands_46 (by decide) ?_
            refine r_weak (lv' := [(0, .ref a0), (1, .int (x1 + 1))]) [1, 0] rfl ?_
            exact ih a0 (x1 + 1) w12 hyp
          · refine r_iconst (v := (-1)) G dX0_countCommands_41 (by decide) ?_
            exact r_iret G hyp rfl (Nat.zero_le _) (Nat.zero_le _) dX0_countCommands_42
        · refine r_iload_n G 1 dX0_countCommands_32 rfl rfl ?_
          exact r_iret G hyp rfl (Nat.zero_le _) (Nat.zero_le _) dX0_countCommands_33
      · refine r_iconst (v := (-1)) G dX0_countCommands_19 (by decide) ?_
        exact r_iret G hyp rfl (Nat.zero_le _) (Nat.zero_le _) dX0_countCommands_20
end
set_option maxRecDepth 100000 in
set_option maxHeartbeats 4000000 in
theorem ct_X0_countCommands {Γ : xG} {l : Launch} (hl : l.stackTraces = false) (a0 : Nat) (w0 : xW) (rF : Int32 ⊕ String) (wF : xW) (hyp : f_X0_countCommands a0 w0 = some (rF, wF)) : xMet Γ l yX0_countCommands (xws yX0_countCommands cX0_countCommands 2 (some .int)) 6 xI [.ref a0] w0 rF wF (x_mc rF) (x_ms rF) := by
  refine xOfW tg_X0_countCommands hl (lv0 := [(0, .ref a0)]) (Nat.le_of_ble_eq_true rfl) rfl ?_
  intro p e s m below meth c G hno hin
  rw [f_X0_countCommands] at hyp
  refine r_aload_n G 0 dX0_countCommands_0 rfl rfl ?_
  obtain ⟨o3, hyp⟩ := x_chk hyp
  refine r_callV (ι := xV) (T := TX0) (N := 6) (ci := 0) (b := a0) (rest := []) (As := []) G hno tg_X0_rewind (fun r w' h => ct_X0_rewind (xhl G) _ _ r w' h) o3 hyp rfl ww_501 ww_329 ww_328 (by decide) (by decide) rfl rfl (xroom (Nat.le_of_ble_eq_true rfl)) dX0_countCommands_1 (push := (fun _ => [])) (fun _ => rfl) (fun _ w1 hyp => ?_)
  refine r_iconst (v := 1) G dX0_countCommands_4 (by decide) ?_
  refine r_istore_n (lv' := [(1, .int 1), (0, .ref a0)]) G dX0_countCommands_5 rfl (by decide) ⟨fun _ => rfl, trivial⟩ rfl ?_
  refine r_weak (lv' := [(0, .ref a0), (1, .int 1)]) [1, 0] rfl ?_
  exact nd_X0_countCommands_L6 G hno xfuel a0 1 w1 hyp
