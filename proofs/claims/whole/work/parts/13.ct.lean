theorem tg_X4_eraseCircle : xTgt yX4_eraseCircle cX4_eraseCircle 7 (some .int) 4 := ⟨ww_242, ww_40, by decide, by decide +kernel, by decide +kernel⟩
section
variable {Γ : xG} {p : Program} {l : Launch} {e : Env} {s : State} {m : MethodId} {args : Array Value} {below : List Frame} {meth : Method} {c : Code} {rF : Int32 ⊕ String} {wF : xW}
end
set_option maxRecDepth 100000 in
set_option maxHeartbeats 4000000 in
theorem ct_X4_eraseCircle {Γ : xG} {l : Launch} (hl : l.stackTraces = false) (a0 : Nat) (x1 : Int32) (x2 : Int32) (x3 : Int32) (x4 : Int32) (w0 : xW) (rF : Int32 ⊕ String) (wF : xW) (hyp : f_X4_eraseCircle a0 x1 x2 x3 x4 w0 = some (rF, wF)) : xMet Γ l yX4_eraseCircle (xws yX4_eraseCircle cX4_eraseCircle 7 (some .int)) 2 xI [.ref a0, .int x1, .int x2, .int x3, .int x4] w0 rF wF (x_mc rF) (x_ms rF) := by
  refine xOfW tg_X4_eraseCircle hl (lv0 := [(0, .ref a0), (1, .int x1), (2, .int x2), (3, .int x3), (4, .int x4)]) (Nat.le_of_ble_eq_true rfl) rfl ?_
  intro p e s m below meth c G hno hin
  rw [f_X4_eraseCircle] at hyp
  refine r_aload_n G 0 dX4_eraseCircle_0 rfl rfl ?_
  refine r_iload_n G 1 dX4_eraseCircle_1 rfl rfl ?_
  obtain ⟨o3, hyp⟩ := x_chk hyp
  refine r_callV (ι := xQ) (T := TX4) (N := 4) (ci := 4) (b := a0) (rest := []) (As := [.int x1]) G hno tg_X4_at (fun r w' h => ct_X4_at (xhl G) _ _ _ r w' h) o3 hyp rfl ww_99 ww_101 ww_100 (by decide) (by decide) rfl rfl (xroom (Nat.le_of_ble_eq_true rfl)) dX4_eraseCircle_2 (push := (fun r2 => [va_rf r2])) (fun _ => rfl) (fun r2 w1 hyp => ?_)
  refine r_astoreq (lv' := [(5, va_rf r2), (0, .ref a0), (1, .int x1), (2, .int x2), (3, .int x3), (4, .int x4)]) G dX4_eraseCircle_5 (by decide) ⟨fun _ => rfl, fun _ => rfl, fun _ => rfl, fun _ => rfl, fun _ => rfl, trivial⟩ rfl ?_
  refine r_aloadq G 0 dX4_eraseCircle_7 rfl ?_
  refine r_ifnull G 20 dX4_eraseCircle_9 (by decide) hyp (fun hyp => ?_) (fun a4 ha4 hz => ?_)
  · refine r_bipush (v := (-2)) G dX4_eraseCircle_20 (by decide) ?_
    exact r_iret G hyp rfl (Nat.zero_le _) (Nat.zero_le _) dX4_eraseCircle_22
  · clear hyp; subst ha4; have hyp := hz; clear hz
    refine r_iload_n G 3 dX4_eraseCircle_12 rfl rfl ?_
    refine r_iload_n G 4 dX4_eraseCircle_13 rfl rfl ?_
    refine r_callSN (ι := xI) (rest := []) (As := [.int x2, .int x3]) G hno tg_X6_isCell (fun r w' h => ct_X6_isCell (xhl G) _ _ _ r w' h) hyp ww_238 ww_199 (by decide) (by decide) rfl rfl (xroom (Nat.le_of_ble_eq_true rfl)) dX4_eraseCircle_14 (push := (fun r6 => [.int r6])) (fun _ => rfl) (fun r6 w5 hyp => ?_)
    refine r_if_ne G 23 dX4_eraseCircle_17 (by decide) hyp (fun c7 hyp => ?_) (fun c7 hyp => ?_)
    · refine r_iload G 5 dX4_eraseCircle_23 rfl ?_
      refine r_if_lt G 35 dX4_eraseCircle_25 (by decide) hyp (fun c8 hyp => ?_) (fun c8 hyp => ?_)
      · refine r_bipush (v := (-3)) G dX4_eraseCircle_35 (by decide) ?_
        exact r_iret G hyp rfl (Nat.zero_le _) (Nat.zero_le _) dX4_eraseCircle_37
      · refine r_iload G 5 dX4_eraseCircle_28 rfl ?_
        refine r_bipush (v := 9) G dX4_eraseCircle_30 (by decide) ?_
        refine r_icmp_le G 38 dX4_eraseCircle_32 (by decide) hyp (fun c9 hyp => ?_) (fun c9 hyp => ?_)
        · refine r_aload G 0 dX4_eraseCircle_38 rfl ?_
          refine r_iload_n G 3 dX4_eraseCircle_40 rfl rfl ?_
          refine r_iload_n G 4 dX4_eraseCircle_41 rfl rfl ?_
          refine r_iload G 5 dX4_eraseCircle_42 rfl ?_
          obtain ⟨o12, hyp⟩ := x_chk hyp
          refine r_callV (ι := xI) (T := TX3) (N := 3) (ci := 3) (b := a4) (rest := []) (As := [.int x2, .int x3, .int x4]) G hno tg_X3_clearCircle (fun r w' h => ct_X3_clearCircle (xhl G) _ _ _ _ _ r w' h) o12 hyp rfl ww_239 ww_241 ww_240 (by decide) (by decide) rfl rfl (xroom (Nat.le_of_ble_eq_true rfl)) dX4_eraseCircle_44 (push := (fun r11 => [.int r11])) (fun _ => rfl) (fun r11 w10 hyp => ?_)
          refine r_istore (lv' := [(6, .int r11), (5, .ref a4), (0, .ref a0), (1, .int x1), (2, .int x2), (3, .int x3), (4, .int x4)]) G dX4_eraseCircle_47 (by decide) ⟨fun _ => rfl, fun _ => rfl, fun _ => rfl, fun _ => rfl, fun _ => rfl, fun _ => rfl, trivial⟩ rfl ?_
          refine r_aload_n G 2 dX4_eraseCircle_49 rfl rfl ?_
          refine r_dup G dX4_eraseCircle_50 rfl ?_
          obtain ⟨v13, hv13, hyp⟩ := x_some hyp
          refine r_getv (C := RX4) (T := TX4) (N := 4) (ci := 4) G 3 (x_geti_e hv13) rfl uw_4 (Nat.le_of_ble_eq_true rfl) rfl ww_34 dX4_eraseCircle_51 ?_
          refine r_iload G 0 dX4_eraseCircle_54 rfl ?_
          refine r_iadd G dX4_eraseCircle_56 ?_
          obtain ⟨w14, hw14, hyp⟩ := x_some hyp
          refine r_putv (C := RX4) (T := TX4) (N := 4) (ci := 4) G tyX4 tyX4_ok nmX4 3 hw14 rfl uw_4 (Nat.le_of_ble_eq_true rfl) rfl ww_34 rfl rfl rfl dX4_eraseCircle_57 ?_
          refine r_iload G 0 dX4_eraseCircle_60 rfl ?_
          exact r_iret G hyp rfl (Nat.zero_le _) (Nat.zero_le _) dX4_eraseCircle_62
        · refine r_bipush (v := (-3)) G dX4_eraseCircle_35 (by decide) ?_
          exact r_iret G hyp rfl (Nat.zero_le _) (Nat.zero_le _) dX4_eraseCircle_37
    · refine r_bipush (v := (-2)) G dX4_eraseCircle_20 (by decide) ?_
      exact r_iret G hyp rfl (Nat.zero_le _) (Nat.zero_le _) dX4_eraseCircle_22
theorem tg_X3_canBeMerged : xTgt yX3_canBeMerged cX3_canBeMerged 1 (some .boolean) 0 := ⟨ww_243, ww_28, by decide, by decide +kernel, by decide +kernel⟩
section
variable {Γ : xG} {p : Program} {l : Launch} {e : Env} {s : State} {m : MethodId} {args : Array Value} {below : List Frame} {meth : Method} {c : Code} {rF : Int32 ⊕ String} {wF : xW}
end
set_option maxRecDepth 100000 in
set_option maxHeartbeats 4000000 in
theorem ct_X3_canBeMerged {Γ : xG} {l : Launch} (hl : l.stackTraces = false) (a0 : Nat) (w0 : xW) (rF : Int32 ⊕ String) (wF : xW) (hyp : f_X3_canBeMerged a0 w0 = some (rF, wF)) : xMet Γ l yX3_canBeMerged (xws yX3_canBeMerged cX3_canBeMerged 1 (some .boolean)) 0 xI [.ref a0] w0 rF wF (x_mc rF) (x_ms rF) := by
  refine xOfW tg_X3_canBeMerged hl (lv0 := [(0, .ref a0)]) (Nat.le_of_ble_eq_true rfl) rfl ?_
  intro p e s m below meth c G hno hin
  rw [f_X3_canBeMerged] at hyp
  refine r_aload_n G 0 dX3_canBeMerged_0 rfl rfl ?_
  obtain ⟨v1, hv1, hyp⟩ := x_some hyp
  refine r_getv (C := RX3) (T := TX3) (N := 3) (ci := 3) G 0 (x_geti_e hv1) rfl uw_3 (Nat.le_of_ble_eq_true rfl) rfl ww_24 dX3_canBeMerged_1 ?_
  refine r_bipush (v := 110) G dX3_canBeMerged_4 (by decide) ?_
  refine r_icmp_ne G 20 dX3_canBeMerged_6 (by decide) hyp (fun c2 hyp => ?_) (fun c2 hyp => ?_)
  · refine r_iconst (v := 0) G dX3_canBeMerged_20 (by decide) ?_
    exact r_iret G hyp (by decide) (Nat.zero_le _) (Nat.zero_le _) dX3_canBeMerged_21
  · refine r_aload_n G 0 dX3_canBeMerged_9 rfl rfl ?_
    obtain ⟨v3, hv3, hyp⟩ := x_some hyp
    refine r_getv (C := RX3) (T := TX3) (N := 3) (ci := 3) G 1 (x_geti_e hv3) rfl uw_3 (Nat.le_of_ble_eq_true rfl) rfl ww_25 dX3_canBeMerged_10 ?_
    refine r_if_eq G 20 dX3_canBeMerged_13 (by decide) hyp (fun c4 hyp => ?_) (fun c4 hyp => ?_)
    · refine r_iconst (v := 0) G dX3_canBeMerged_20 (by decide) ?_
      exact r_iret G hyp (by decide) (Nat.zero_le _) (Nat.zero_le _) dX3_canBeMerged_21
    · refine r_iconst (v := 1) G dX3_canBeMerged_16 (by decide) ?_
      refine r_goto G 21 dX3_canBeMerged_17 (by decide) ?_
      exact r_iret G hyp (by decide) (Nat.zero_le _) (Nat.zero_le _) dX3_canBeMerged_21
theorem tg_X3_coverWith : xTgt yX3_coverWith cX3_coverWith 4 none 1 := ⟨ww_244, ww_28, by decide, by decide +kernel, by decide +kernel⟩
section
variable {Γ : xG} {p : Program} {l : Launch} {e : Env} {s : State} {m : MethodId} {args : Array Value} {below : List Frame} {meth : Method} {c : Code} {rF : Unit ⊕ String} {wF : xW}
set_option maxRecDepth 100000 in
set_option maxHeartbeats 4000000 in
theorem nd_X3_coverWith_L2 (G : xCx Γ p l s m args meth c RX3 cX3_coverWith 4 none) (hno : ∀ x ∈ c.exceptionTable.toList, False) : ∀ (n : Nat) (a0 : Nat) (x1 : Option Nat) (x2 : Int32) (w0 : xW), f_X3_coverWith_L2 n a0 x1 x2 w0 = some (rF, wF) → xAW Γ p l e (xRm 1 (x_mc rF) (x_ms rF)) s m args below meth c 4 (xQm Γ below xV rF wF args s (x_mc rF) (x_ms rF)) w0 0 0 2 [(0, .ref a0), (1, va_rf x1), (2, .int x2)] [] := by
  intro n
  induction n with
  | zero =>
    intro a0 x1 x2 w0 hyp
    cases (show (none : xO Unit) = some (rF, wF) from hyp)
  | succ n ih =>
    intro a0 x1 x2 w0 hyp
    rw [f_X3_coverWith_L2] at hyp
    refine r_iload_n G 2 dX3_coverWith_2 rfl rfl ?_
    refine r_aload_n G 0 dX3_coverWith_3 rfl rfl ?_
    obtain ⟨v1, hv1, hyp⟩ := x_some hyp
    refine r_getv (C := RX3) (T := TX3) (N := 3) (ci := 3) G 2 (x_getr_e hv1) rfl uw_3 (Nat.le_of_ble_eq_true rfl) rfl ww_26 dX3_coverWith_4 ?_
    refine r_ref hyp (fun a2 ha2 hz => ?_)
    clear hyp; subst ha2; have hyp := hz; clear hz
    obtain ⟨v3, hv3, hyp⟩ := x_some hyp
    refine r_len G hv3 dX3_coverWith_7 ?_
    refine r_icmp_ge G 35 dX3_coverWith_8 (by decide) hyp (fun c4 hyp => ?_) (fun c4 hyp => ?_)
    · exact r_vret G hyp (Nat.zero_le _) (Nat.zero_le _) dX3_coverWith_35
    · refine r_aload_nq G 1 dX3_coverWith_11 rfl rfl ?_
      refine r_iload_n G 2 dX3_coverWith_12 rfl rfl ?_
      refine r_ref hyp (fun a5 ha5 hz => ?_)
      clear hyp; subst ha5; have hyp := hz; clear hz
      obtain ⟨o8, hyp⟩ := x_chk hyp
      refine r_callV (ι := xI) (T := TX3) (N := 3) (ci := 3) (b := a5) (rest := []) (As := [.int x2]) G hno tg_X3_toneAt (fun r w' h => ct_X3_toneAt (xhl G) _ _ _ r w' h) o8 hyp rfl ww_141 ww_143 ww_142 (by decide) (by decide) rfl rfl (xroom (Nat.le_of_ble_eq_true rfl)) dX3_coverWith_13 (push := (fun r7 => [.int r7])) (fun _ => rfl) (fun r7 w6 hyp => ?_)
      refine r_istore_n (lv' := [(3, .int r7), (0, .ref a0), (1, .ref a5), (2, .int x2)]) G dX3_coverWith_16 rfl (by decide) ⟨fun _ => rfl, fun _ => rfl, fun _ => rfl, trivial⟩ rfl ?_
      refine r_iload_n G 0 dX3_coverWith_17 rfl rfl ?_
      refine r_iconst (v := (-1)) G dX3_coverWith_18 (by decide) ?_
      refine r_icmp_eq G 29 dX3_coverWith_19 (by decide) hyp (fun c9 hyp => ?_) (fun c9 hyp => ?_)
      · refine r_iinc (v := (x2 + 1)) (lv' := [(2, .int (x2 + 1)), (3, .int r7), (0, .ref a0), (1, .ref a5)]) G 3 dX3_coverWith_29 rfl rfl (by decide) ⟨fun _ => rfl, fun _ => rfl, fun _ => rfl, fun _ => rfl, trivial⟩ rfl ?_
        refine r_goto G 2 dX3_coverWith_32 (by decide) ?_
        refine r_weak (lv' := [(0, .ref a0), (1, .ref a5), (2, .int (x2 + 1))]) [2, 3, 0] rfl ?_
        exact ih a0 (some a5) (x2 + 1) w6 hyp
      · refine r_aload_n G 1 dX3_coverWith_22 rfl rfl ?_
        obtain ⟨v10, hv10, hyp⟩ := x_some hyp
        refine r_getv (C := RX3) (T := TX3) (N := 3) (ci := 3) G 2 (x_getr_e hv10) rfl uw_3 (Nat.le_of_ble_eq_true rfl) rfl ww_26 dX3_coverWith_23 ?_
        refine r_iload_n G 3 dX3_coverWith_26 rfl rfl ?_
        refine r_iload_n G 0 dX3_coverWith_27 rfl rfl ?_
        refine r_ref hyp (fun a11 ha11 hz => ?_)
        clear hyp; subst ha11; have hyp := hz; clear hz
        obtain ⟨w12, hw12, hyp⟩ := x_some hyp
        refine r_iast G hw12 dX3_coverWith_28 ?_
        refine r_iinc (v := (x2 + 1)) (lv' := [(2, .int (x2 + 1)), (3, .int r7), (0, .ref a0), (1, .ref a5)]) G 3 dX3_coverWith_29 rfl rfl (by decide) ⟨fun _ => rfl, fun _ => rfl, fun _ => rfl, fun _ => rfl, trivial⟩ rfl ?_
        refine r_goto G 2 dX3_coverWith_32 (by decide) ?_
        refine r_weak (lv' := [(0, .ref a0), (1, .ref a5), (2, .int (x2 + 1))]) [2, 3, 0] rfl ?_
        exact ih a0 (some a5) (x2 + 1) w12 hyp
end
set_option maxRecDepth 100000 in
set_option maxHeartbeats 4000000 in
theorem ct_X3_coverWith {Γ : xG} {l : Launch} (hl : l.stackTraces = false) (a0 : Nat) (x1 : Option Nat) (w0 : xW) (rF : Unit ⊕ String) (wF : xW) (hyp : f_X3_coverWith a0 x1 w0 = some (rF, wF)) : xMet Γ l yX3_coverWith (xws yX3_coverWith cX3_coverWith 4 none) 1 xV [.ref a0, va_rf x1] w0 rF wF (x_mc rF) (x_ms rF) := by
  refine xOfW tg_X3_coverWith hl (lv0 := [(0, .ref a0), (1, va_rf x1)]) (by cases x1 <;> exact Nat.le_of_ble_eq_true rfl) (by cases x1 <;> rfl) ?_
  intro p e s m below meth c G hno hin
  rw [f_X3_coverWith] at hyp
  refine r_iconst (v := 0) G dX3_coverWith_0 (by decide) ?_
  refine r_istore_n (lv' := [(2, .int 0), (0, .ref a0), (1, va_rf x1)]) G dX3_coverWith_1 rfl (by decide) ⟨fun _ => rfl, fun _ => xcq _, trivial⟩ rfl ?_
  refine r_weak (lv' := [(0, .ref a0), (1, va_rf x1), (2, .int 0)]) [1, 2, 0] rfl ?_
  exact nd_X3_coverWith_L2 G hno xfuel a0 x1 0 w0 hyp
theorem tg_X4_takeAway : xTgt yX4_takeAway cX4_takeAway 2 (some .int) 1 := ⟨ww_246, ww_40, by decide, by decide +kernel, by decide +kernel⟩
section
variable {Γ : xG} {p : Program} {l : Launch} {e : Env} {s : State} {m : MethodId} {args : Array Value} {below : List Frame} {meth : Method} {c : Code} {rF : Int32 ⊕ String} {wF : xW}
end
set_option maxRecDepth 100000 in
set_option maxHeartbeats 4000000 in
theorem ct_X4_takeAway {Γ : xG} {l : Launch} (hl : l.stackTraces = false) (a0 : Nat) (x1 : Int32) (w0 : xW) (rF : Int32 ⊕ String) (wF : xW) (hyp : f_X4_takeAway a0 x1 w0 = some (rF, wF)) : xMet Γ l yX4_takeAway (xws yX4_takeAway cX4_takeAway 2 (some .int)) 2 xI [.ref a0, .int x1] w0 rF wF (x_mc rF) (x_ms rF) := by
  refine xOfW tg_X4_takeAway hl (lv0 := [(0, .ref a0), (1, .int x1)]) (Nat.le_of_ble_eq_true rfl) rfl ?_
  intro p e s m below meth c G hno hin
  rw [f_X4_takeAway] at hyp
  refine r_aload_n G 0 dX4_takeAway_0 rfl rfl ?_
  refine r_iload_n G 1 dX4_takeAway_1 rfl rfl ?_
  obtain ⟨o3, hyp⟩ := x_chk hyp
  refine r_callV (ι := xQ) (T := TX4) (N := 4) (ci := 4) (b := a0) (rest := []) (As := [.int x1]) G hno tg_X4_at (fun r w' h => ct_X4_at (xhl G) _ _ _ r w' h) o3 hyp rfl ww_99 ww_101 ww_100 (by decide) (by decide) rfl rfl (xroom (Nat.le_of_ble_eq_true rfl)) dX4_takeAway_2 (push := (fun r2 => [va_rf r2])) (fun _ => rfl) (fun r2 w1 hyp => ?_)
  refine r_ifnonnull G 11 dX4_takeAway_5 (by decide) hyp (fun a4 ha4 hz => ?_) (fun hyp => ?_)
  · clear hyp; subst ha4; have hyp := hz; clear hz
    refine r_aload_n G 0 dX4_takeAway_11 rfl rfl ?_
    refine r_iload_n G 1 dX4_takeAway_12 rfl rfl ?_
    refine r_aload_n G 0 dX4_takeAway_13 rfl rfl ?_
    obtain ⟨v5, hv5, hyp⟩ := x_some hyp
    refine r_getv (C := RX4) (T := TX4) (N := 4) (ci := 4) G 1 (x_geti_e hv5) rfl uw_4 (Nat.le_of_ble_eq_true rfl) rfl ww_32 dX4_takeAway_14 ?_
    refine r_iconst (v := 1) G dX4_takeAway_17 (by decide) ?_
    refine r_isub G dX4_takeAway_18 ?_
    obtain ⟨o8, hyp⟩ := x_chk hyp
    refine r_callV (ι := xV) (T := TX4) (N := 4) (ci := 4) (b := a0) (rest := []) (As := [.int x1, .int (v5 - 1)]) G hno tg_X4_shift (fun r w' h => ct_X4_shift (xhl G) _ _ _ _ r w' h) o8 hyp rfl ww_245 ww_215 ww_214 (by decide) (by decide) rfl rfl (xroom (Nat.le_of_ble_eq_true rfl)) dX4_takeAway_19 (push := (fun _ => [])) (fun _ => rfl) (fun _ w6 hyp => ?_)
    refine r_aload_n G 0 dX4_takeAway_22 rfl rfl ?_
    refine r_dup G dX4_takeAway_23 rfl ?_
    obtain ⟨v9, hv9, hyp⟩ := x_some hyp
    refine r_getv (C := RX4) (T := TX4) (N := 4) (ci := 4) G 1 (x_geti_e hv9) rfl uw_4 (Nat.le_of_ble_eq_true rfl) rfl ww_32 dX4_takeAway_24 ?_
    refine r_iconst (v := 1) G dX4_takeAway_27 (by decide) ?_
    refine r_isub G dX4_takeAway_28 ?_
    obtain ⟨w10, hw10, hyp⟩ := x_some hyp
    refine r_putv (C := RX4) (T := TX4) (N := 4) (ci := 4) G tyX4 tyX4_ok nmX4 1 hw10 rfl uw_4 (Nat.le_of_ble_eq_true rfl) rfl ww_32 rfl rfl rfl dX4_takeAway_29 ?_
    refine r_aload_n G 0 dX4_takeAway_32 rfl rfl ?_
    obtain ⟨v11, hv11, hyp⟩ := x_some hyp
    refine r_getv (C := RX4) (T := TX4) (N := 4) (ci := 4) G 1 (x_geti_e hv11) rfl uw_4 (Nat.le_of_ble_eq_true rfl) rfl ww_32 dX4_takeAway_33 ?_
    exact r_iret G hyp rfl (Nat.zero_le _) (Nat.zero_le _) dX4_takeAway_36
  · refine r_bipush (v := (-2)) G dX4_takeAway_8 (by decide) ?_
    exact r_iret G hyp rfl (Nat.zero_le _) (Nat.zero_le _) dX4_takeAway_10
theorem tg_X4_mergeWithLower : xTgt yX4_mergeWithLower cX4_mergeWithLower 4 (some .int) 1 := ⟨ww_256, ww_40, by decide, by decide +kernel, by decide +kernel⟩
section
variable {Γ : xG} {p : Program} {l : Launch} {e : Env} {s : State} {m : MethodId} {args : Array Value} {below : List Frame} {meth : Method} {c : Code} {rF : Int32 ⊕ String} {wF : xW}
end
set_option maxRecDepth 100000 in
set_option maxHeartbeats 4000000 in
theorem ct_X4_mergeWithLower {Γ : xG} {l : Launch} (hl : l.stackTraces = false) (a0 : Nat) (x1 : Int32) (w0 : xW) (rF : Int32 ⊕ String) (wF : xW) (hyp : f_X4_mergeWithLower a0 x1 w0 = some (rF, wF)) : xMet Γ l yX4_mergeWithLower (xws yX4_mergeWithLower cX4_mergeWithLower 4 (some .int)) 3 xI [.ref a0, .int x1] w0 rF wF (x_mc rF) (x_ms rF) := by
  refine xOfW tg_X4_mergeWithLower hl (lv0 := [(0, .ref a0), (1, .int x1)]) (Nat.le_of_ble_eq_true rfl) rfl ?_
  intro p e s m below meth c G hno hin
  rw [f_X4_mergeWithLower] at hyp
  refine r_aload_n G 0 dX4_mergeWithLower_0 rfl rfl ?_
  refine r_iload_n G 1 dX4_mergeWithLower_1 rfl rfl ?_
  obtain ⟨o3, hyp⟩ := x_chk hyp
  refine r_callV (ι := xQ) (T := TX4) (N := 4) (ci := 4) (b := a0) (rest := []) (As := [.int x1]) G hno tg_X4_at (fun r w' h => ct_X4_at (xhl G) _ _ _ r w' h) o3 hyp rfl ww_99 ww_101 ww_100 (by decide) (by decide) rfl rfl (xroom (Nat.le_of_ble_eq_true rfl)) dX4_mergeWithLower_2 (push := (fun r2 => [va_rf r2])) (fun _ => rfl) (fun r2 w1 hyp => ?_)
  refine r_astore_nq (lv' := [(2, va_rf r2), (0, .ref a0), (1, .int x1)]) G dX4_mergeWithLower_5 rfl (by decide) ⟨fun _ => rfl, fun _ => rfl, trivial⟩ rfl ?_
  refine r_aload_nq G 0 dX4_mergeWithLower_6 rfl rfl ?_
  refine r_ifnonnull G 13 dX4_mergeWithLower_7 (by decide) hyp (fun a4 ha4 hz => ?_) (fun hyp => ?_)
  · clear hyp; subst ha4; have hyp := hz; clear hz
    refine r_aload_n G 1 dX4_mergeWithLower_13 rfl rfl ?_
    refine r_iload_n G 2 dX4_mergeWithLower_14 rfl rfl ?_
    refine r_iconst (v := 1) G dX4_mergeWithLower_15 (by decide) ?_
    refine r_isub G dX4_mergeWithLower_16 ?_
    obtain ⟨o7, hyp⟩ := x_chk hyp
    refine r_callV (ι := xQ) (T := TX4) (N := 4) (ci := 4) (b := a0) (rest := []) (As := [.int (x1 - 1)]) G hno tg_X4_at (fun r w' h => ct_X4_at (xhl G) _ _ _ r w' h) o7 hyp rfl ww_99 ww_101 ww_100 (by decide) (by decide) rfl rfl (xroom (Nat.le_of_ble_eq_true rfl)) dX4_mergeWithLower_17 (push := (fun r6 => [va_rf r6])) (fun _ => rfl) (fun r6 w5 hyp => ?_)
    refine r_astore_nq (lv' := [(3, va_rf r6), (2, .ref a4), (0, .ref a0), (1, .int x1)]) G dX4_mergeWithLower_20 rfl (by decide) ⟨fun _ => rfl, fun _ => rfl, fun _ => rfl, trivial⟩ rfl ?_
    refine r_aload_nq G 0 dX4_mergeWithLower_21 rfl rfl ?_
    refine r_ifnonnull G 28 dX4_mergeWithLower_22 (by decide) hyp (fun a8 ha8 hz => ?_) (fun hyp => ?_)
    · clear hyp; subst ha8; have hyp := hz; clear hz
      refine r_aload_n G 1 dX4_mergeWithLower_28 rfl rfl ?_
      obtain ⟨o11, hyp⟩ := x_chk hyp
      refine r_callV (ι := xI) (T := TX3) (N := 3) (ci := 3) (b := a4) (rest := []) (As := []) G hno tg_X3_canBeMerged (fun r w' h => ct_X3_canBeMerged (xhl G) _ _ r w' h) o11 hyp rfl ww_247 ww_249 ww_248 (by decide) (by decide) rfl rfl (xroom (Nat.le_of_ble_eq_true rfl)) dX4_mergeWithLower_29 (push := (fun r10 => [.int r10])) (fun _ => rfl) (fun r10 w9 hyp => ?_)
      refine r_if_eq G 42 dX4_mergeWithLower_32 (by decide) hyp (fun c12 hyp => ?_) (fun c12 hyp => ?_)
      · refine r_bipush (v := (-6)) G dX4_mergeWithLower_42 (by decide) ?_
        exact r_iret G hyp rfl (Nat.zero_le _) (Nat.zero_le _) dX4_mergeWithLower_44
      · refine r_aload_n G 0 dX4_mergeWithLower_35 rfl rfl ?_
        obtain ⟨o15, hyp⟩ := x_chk hyp
        refine r_callV (ι := xI) (T := TX3) (N := 3) (ci := 3) (b := a8) (rest := []) (As := []) G hno tg_X3_canBeMerged (fun r w' h => ct_X3_canBeMerged (xhl G) _ _ r w' h) o15 hyp rfl ww_247 ww_249 ww_248 (by decide) (by decide) rfl rfl (xroom (Nat.le_of_ble_eq_true rfl)) dX4_mergeWithLower_36 (push := (fun r14 => [.int r14])) (fun _ => rfl) (fun r14 w13 hyp => ?_)
        refine r_if_ne G 45 dX4_mergeWithLower_39 (by decide) hyp (fun c16 hyp => ?_) (fun c16 hyp => ?_)
        · refine r_aload_n G 0 dX4_mergeWithLower_45 rfl rfl ?_
          refine r_aload_n G 1 dX4_mergeWithLower_46 rfl rfl ?_
          obtain ⟨o19, hyp⟩ := x_chk hyp
          refine r_callV (ι := xV) (T := TX3) (N := 3) (ci := 3) (b := a8) (rest := []) (As := [va_rf (some a4)]) G hno tg_X3_coverWith (fun r w' h => ct_X3_coverWith (xhl G) _ _ _ r w' h) o19 hyp rfl ww_250 ww_252 ww_251 (by decide) (by decide) rfl rfl (xroom (Nat.le_of_ble_eq_true rfl)) dX4_mergeWithLower_47 (push := (fun _ => [])) (fun _ => rfl) (fun _ w17 hyp => ?_)
          refine r_aload_n G 2 dX4_mergeWithLower_50 rfl rfl ?_
          refine r_iload_n G 3 dX4_mergeWithLower_51 rfl rfl ?_
          obtain ⟨o22, hyp⟩ := x_chk hyp
          refine r_callV (ι := xI) (T := TX4) (N := 4) (ci := 4) (b := a0) (rest := []) (As := [.int x1]) G hno tg_X4_takeAway (fun r w' h => ct_X4_takeAway (xhl G) _ _ _ r w' h) o22 hyp rfl ww_253 ww_255 ww_254 (by decide) (by decide) rfl rfl (xroom (Nat.le_of_ble_eq_true rfl)) dX4_mergeWithLower_52 (push := (fun r21 => [.int r21])) (fun _ => rfl) (fun r21 w20 hyp => ?_)
          refine r_pop G dX4_mergeWithLower_55 rfl ?_
          refine r_aload_n G 0 dX4_mergeWithLower_56 rfl rfl ?_
          obtain ⟨o25, hyp⟩ := x_chk hyp
          refine r_callV (ι := xI) (T := TX3) (N := 3) (ci := 3) (b := a8) (rest := []) (As := []) G hno tg_X3_countTones (fun r w' h => ct_X3_countTones (xhl G) _ _ r w' h) o25 hyp rfl ww_232 ww_234 ww_233 (by decide) (by decide) rfl rfl (xroom (Nat.le_of_ble_eq_true rfl)) dX4_mergeWithLower_57 (push := (fun r24 => [.int r24])) (fun _ => rfl) (fun r24 w23 hyp => ?_)
          exact r_iret G hyp rfl (Nat.zero_le _) (Nat.zero_le _) dX4_mergeWithLower_60
        · refine r_bipush (v := (-6)) G dX4_mergeWithLower_42 (by decide) ?_
          exact r_iret G hyp rfl (Nat.zero_le _) (Nat.zero_le _) dX4_mergeWithLower_44
    · refine r_bipush (v := (-5)) G dX4_mergeWithLower_25 (by decide) ?_
      exact r_iret G hyp rfl (Nat.zero_le _) (Nat.zero_le _) dX4_mergeWithLower_27
  · refine r_bipush (v := (-2)) G dX4_mergeWithLower_10 (by decide) ?_
    exact r_iret G hyp rfl (Nat.zero_le _) (Nat.zero_le _) dX4_mergeWithLower_12
theorem tg_X6_isTone : xTgt yX6_isTone cX6_isTone 1 (some .boolean) 1 := ⟨ww_257, ww_86, by decide, by decide +kernel, by decide +kernel⟩
section
variable {Γ : xG} {p : Program} {l : Launch} {e : Env} {s : State} {m : MethodId} {args : Array Value} {below : List Frame} {meth : Method} {c : Code} {rF : Int32 ⊕ String} {wF : xW}
end
set_option maxRecDepth 100000 in
set_option maxHeartbeats 4000000 in
theorem ct_X6_isTone {Γ : xG} {l : Launch} (hl : l.stackTraces = false) (x0 : Int32) (w0 : xW) (rF : Int32 ⊕ String) (wF : xW) (hyp : f_X6_isTone x0 w0 = some (rF, wF)) : xMet Γ l yX6_isTone (xws yX6_isTone cX6_isTone 1 (some .boolean)) 0 xI [.int x0] w0 rF wF (x_mc rF) (x_ms rF) := by
  refine xOfW tg_X6_isTone hl (lv0 := [(0, .int x0)]) (Nat.le_of_ble_eq_true rfl) rfl ?_
  intro p e s m below meth c G hno hin
  rw [f_X6_isTone] at hyp
  refine r_iload_n G 0 dX6_isTone_0 rfl rfl ?_
  refine r_if_lt G 14 dX6_isTone_1 (by decide) hyp (fun c1 hyp => ?_) (fun c1 hyp => ?_)
  · refine r_iconst (v := 0) G dX6_isTone_14 (by decide) ?_
    exact r_iret G hyp (by decide) (Nat.zero_le _) (Nat.zero_le _) dX6_isTone_15
  · refine r_iload_n G 0 dX6_isTone_4 rfl rfl ?_
    refine r_bipush (v := 15) G dX6_isTone_5 (by decide) ?_
    refine r_icmp_gt G 14 dX6_isTone_7 (by decide) hyp (fun c2 hyp => ?_) (fun c2 hyp => ?_)
    · refine r_iconst (v := 0) G dX6_isTone_14 (by decide) ?_
      exact r_iret G hyp (by decide) (Nat.zero_le _) (Nat.zero_le _) dX6_isTone_15
    · refine r_iconst (v := 1) G dX6_isTone_10 (by decide) ?_
      refine r_goto G 15 dX6_isTone_11 (by decide) ?_
      exact r_iret G hyp (by decide) (Nat.zero_le _) (Nat.zero_le _) dX6_isTone_15
theorem tg_X3_fillRectangle : xTgt yX3_fillRectangle cX3_fillRectangle 9 (some .int) 5 := ⟨ww_258, ww_28, by decide, by decide +kernel, by decide +kernel⟩
section
variable {Γ : xG} {p : Program} {l : Launch} {e : Env} {s : State} {m : MethodId} {args : Array Value} {below : List Frame} {meth : Method} {c : Code} {rF : Int32 ⊕ String} {wF : xW}
set_option maxRecDepth 100000 in
set_option maxHeartbeats 4000000 in
theorem nd_X3_fillRectangle_L19 {k9 : Nat → Int32 → Int32 → Int32 → Int32 → Int32 → Int32 → xW → xO Int32} (G : xCx Γ p l s m args meth c RX3 cX3_fillRectangle 9 (some .int)) (hno : ∀ x ∈ c.exceptionTable.toList, False) (hk9 : ∀ (a0 : Nat) (x1 : Int32) (x3 : Int32) (x4 : Int32) (x5 : Int32) (x6 : Int32) (x7 : Int32) (w : xW), k9 a0 x1 x3 x4 x5 x6 x7 w = some (rF, wF) → xAW Γ p l e (xRm 1 (x_mc rF) (x_ms rF)) s m args below meth c 9 (xQm Γ below xI rF wF args s (x_mc rF) (x_ms rF)) w 0 0 9 [(0, .ref a0), (1, .int x1), (3, .int x3), (4, .int x4), (5, .int x5), (6, .int x6), (7, .int x7)] []) : ∀ (n : Nat) (a0 : Nat) (x1 : Int32) (x3 : Int32) (x4 : Int32) (x5 : Int32) (x6 : Int32) (x7 : Int32) (x8 : Int32) (w0 : xW), f_X3_fillRectangle_L19 k9 n a0 x1 x3 x4 x5 x6 x7 x8 w0 = some (rF, wF) → xAW Γ p l e (xRm 1 (x_mc rF) (x_ms rF)) s m args below meth c 9 (xQm Γ below xI rF wF args s (x_mc rF) (x_ms rF)) w0 0 0 19 [(0, .ref a0), (1, .int x1), (3, .int x3), (4, .int x4), (5, .int x5), (6, .int x6), (7, .int x7), (8, .int x8)] [] := by
  intro n
  induction n with
  | zero =>
    intro a0 x1 x3 x4 x5 x6 x7 x8 w0 hyp
    cases (show (none : xO Int32) = some (rF, wF) from hyp)
  | succ n ih =>
    intro a0 x1 x3 x4 x5 x6 x7 x8 w0 hyp
    rw [f_X3_fillRectangle_L19] at hyp
    refine r_iload G 7 dX3_fillRectangle_19 rfl ?_
    refine r_iload_n G 2 dX3_fillRectangle_21 rfl rfl ?_
    refine r_icmp_gt G 44 dX3_fillRectangle_22 (by decide) hyp (fun c8 hyp => ?_) (fun c8 hyp => ?_)
    · refine r_iinc (v := (x7 + 1)) (lv' := [(7, .int (x7 + 1)), (0, .ref a0), (1, .int x1), (3, .int x3), (4, .int x4), (5, .int x5), (6, .int x6), (8, .int x8)]) G 6 dX3_fillRectangle_44 rfl rfl (by decide) ⟨fun _ => rfl, fun _ => rfl, fun _ => rfl, fun _ => rfl, fun _ => rfl, fun _ => rfl, fun _ => rfl, fun _ => rfl, trivial⟩ rfl ?_
      refine r_goto G 9 dX3_fillRectangle_47 (by decide) ?_
      refine r_weak (lv' := [(0, .ref a0), (1, .int x1), (3, .int x3), (4, .int x4), (5, .int x5), (6, .int x6), (7, .int (x7 + 1))]) [1, 2, 3, 4, 5, 6, 0] rfl ?_
      exact hk9 a0 x1 x3 x4 x5 x6 (x7 + 1) w0 hyp
    · refine r_aload_n G 0 dX3_fillRectangle_25 rfl rfl ?_
      refine r_iload G 7 dX3_fillRectangle_26 rfl ?_
      refine r_iload G 6 dX3_fillRectangle_28 rfl ?_
      refine r_callSN (ι := xI) (rest := [.ref a0]) (As := [.int x8, .int x7]) G hno tg_X6_cellNumber (fun r w' h => ct_X6_cellNumber (xhl G) _ _ _ r w' h) hyp ww_224 ww_201 (by decide) (by decide) rfl rfl (xroom (Nat.le_of_ble_eq_true rfl)) dX3_fillRectangle_30 (push := (fun r10 => [.int r10, .ref a0])) (fun _ => rfl) (fun r10 w9 hyp => ?_)
      refine r_iload G 4 dX3_fillRectangle_33 rfl ?_
      obtain ⟨o13, hyp⟩ := x_chk hyp
      refine r_callV (ι := xV) (T := TX3) (N := 3) (ci := 3) (b := a0) (rest := []) (As := [.int r10, .int x5]) G hno tg_X3_setTone (fun r w' h => ct_X3_setTone (xhl G) _ _ _ _ r w' h) o13 hyp rfl ww_225 ww_227 ww_226 (by decide) (by decide) rfl rfl (xroom (Nat.le_of_ble_eq_true rfl)) dX3_fillRectangle_35 (push := (fun _ => [])) (fun _ => rfl) (fun _ w11 hyp => ?_)
      refine r_iinc (v := (x8 + 1)) (lv' := [(8, .int (x8 + 1)), (0, .ref a0), (1, .int x1), (3, .int x3), (4, .int x4), (5, .int x5), (6, .int x6), (7, .int x7)]) G 7 dX3_fillRectangle_38 rfl rfl (by decide) ⟨fun _ => rfl, fun _ => rfl, fun _ => rfl, fun _ => rfl, fun _ => rfl, fun _ => rfl, fun _ => rfl, fun _ => rfl, trivial⟩ rfl ?_
      refine r_goto G 19 dX3_fillRectangle_41 (by decide) ?_
      refine r_weak (lv' := [(0, .ref a0), (1, .int x1), (3, .int x3), (4, .int x4), (5, .int x5), (6, .int x6), (7, .int x7), (8, .int (x8 + 1))]) [1, 2, 3, 4, 5, 6, 7, 0] rfl ?_
      exact ih a0 x1 x3 x4 x5 x6 x7 (x8 + 1) w11 hyp
set_option maxRecDepth 100000 in
set_option maxHeartbeats 4000000 in
theorem nd_X3_fillRectangle_L9 (G : xCx Γ p l s m args meth c RX3 cX3_fillRectangle 9 (some .int)) (hno : ∀ x ∈ c.exceptionTable.toList, False) : ∀ (n : Nat) (a0 : Nat) (x1 : Int32) (x3 : Int32) (x4 : Int32) (x5 : Int32) (x6 : Int32) (x7 : Int32) (w0 : xW), f_X3_fillRectangle_L9 n a0 x1 x3 x4 x5 x6 x7 w0 = some (rF, wF) → xAW Γ p l e (xRm 1 (x_mc rF) (x_ms rF)) s m args below meth c 9 (xQm Γ below xI rF wF args s (x_mc rF) (x_ms rF)) w0 0 0 9 [(0, .ref a0), (1, .int x1), (3, .int x3), (4, .int x4), (5, .int x5), (6, .int x6), (7, .int x7)] [] := by
  intro n
  induction n with
  | zero =>
    intro a0 x1 x3 x4 x5 x6 x7 w0 hyp
    cases (show (none : xO Int32) = some (rF, wF) from hyp)
  | succ n ih =>
    intro a0 x1 x3 x4 x5 x6 x7 w0 hyp
    rw [f_X3_fillRectangle_L9] at hyp
    refine r_iload G 6 dX3_fillRectangle_9 rfl ?_
    refine r_iload G 3 dX3_fillRectangle_11 rfl ?_
    refine r_icmp_gt G 50 dX3_fillRectangle_13 (by decide) hyp (fun c4 hyp => ?_) (fun c4 hyp => ?_)
    · refine r_aload_n G 0 dX3_fillRectangle_50 rfl rfl ?_
      obtain ⟨o7, hyp⟩ := x_chk hyp
      refine r_callV (ι := xI) (T := TX3) (N := 3) (ci := 3) (b := a0) (rest := []) (As := []) G hno tg_X3_countTones (fun r w' h => ct_X3_countTones (xhl G) _ _ r w' h) o7 hyp rfl ww_236 ww_234 ww_233 (by decide) (by decide) rfl rfl (xroom (Nat.le_of_ble_eq_true rfl)) dX3_fillRectangle_51 (push := (fun r6 => [.int r6])) (fun _ => rfl) (fun r6 w5 hyp => ?_)
      refine r_iload G 5 dX3_fillRectangle_54 rfl ?_
      refine r_isub G dX3_fillRectangle_56 ?_
      exact r_iret G hyp rfl (Nat.zero_le _) (Nat.zero_le _) dX3_fillRectangle_57
    · refine r_iload_n G 1 dX3_fillRectangle_16 rfl rfl ?_
      refine r_istore (lv' := [(8, .int x1), (0, .ref a0), (1, .int x1), (3, .int x3), (4, .int x4), (5, .int x5), (6, .int x6), (7, .int x7)]) G dX3_fillRectangle_17 (by decide) ⟨fun _ => rfl, fun _ => rfl, fun _ => rfl, fun _ => rfl, fun _ => rfl, fun _ => rfl, fun _ => rfl, trivial⟩ rfl ?_
      refine r_weak (lv' := [(0, .ref a0), (1, .int x1), (3, .int x3), (4, .int x4), (5, .int x5), (6, .int x6), (7, .int x7), (8, .int x1)]) [1, 2, 3, 4, 5, 6, 7, 0] rfl ?_
      exact nd_X3_fillRectangle_L19 G hno ih xfuel a0 x1 x3 x4 x5 x6 x7 x1 w0 hyp
end
set_option maxRecDepth 100000 in
set_option maxHeartbeats 4000000 in
theorem ct_X3_fillRectangle {Γ : xG} {l : Launch} (hl : l.stackTraces = false) (a0 : Nat) (x1 : Int32) (x2 : Int32) (x3 : Int32) (x4 : Int32) (x5 : Int32) (w0 : xW) (rF : Int32 ⊕ String) (wF : xW) (hyp : f_X3_fillRectangle a0 x1 x2 x3 x4 x5 w0 = some (rF, wF)) : xMet Γ l yX3_fillRectangle (xws yX3_fillRectangle cX3_fillRectangle 9 (some .int)) 1 xI [.ref a0, .int x1, .int x2, .int x3, .int x4, .int x5] w0 rF wF (x_mc rF) (x_ms rF) := by
  refine xOfW tg_X3_fillRectangle hl (lv0 := [(0, .ref a0), (1, .int x1), (2, .int x2), (3, .int x3), (4, .int x4), (5, .int x5)]) (Nat.le_of_ble_eq_true rfl) rfl ?_
  intro p e s m below meth c G hno hin
  rw [f_X3_fillRectangle] at hyp
  refine r_aload_n G 0 dX3_fillRectangle_0 rfl rfl ?_
  obtain ⟨o3, hyp⟩ := x_chk hyp
  refine r_callV (ι := xI) (T := TX3) (N := 3) (ci := 3) (b := a0) (rest := []) (As := []) G hno tg_X3_countTones (fun r w' h => ct_X3_countTones (xhl G) _ _ r w' h) o3 hyp rfl ww_236 ww_234 ww_233 (by decide) (by decide) rfl rfl (xroom (Nat.le_of_ble_eq_true rfl)) dX3_fillRectangle_1 (push := (fun r2 => [.int r2])) (fun _ => rfl) (fun r2 w1 hyp => ?_)
  refine r_istore (lv' := [(6, .int r2), (0, .ref a0), (1, .int x1), (2, .int x2), (3, .int x3), (4, .int x4), (5, .int x5)]) G dX3_fillRectangle_4 (by decide) ⟨fun _ => rfl, fun _ => rfl, fun _ => rfl, fun _ => rfl, fun _ => rfl, fun _ => rfl, trivial⟩ rfl ?_
  refine r_iload_n G 3 dX3_fillRectangle_6 rfl rfl ?_
  refine r_istore (lv' := [(7, .int x2), (6, .int r2), (0, .ref a0), (1, .int x1), (2, .int x2), (3, .int x3), (4, .int x4), (5, .int x5)]) G dX3_fillRectangle_7 (by decide) ⟨fun _ => rfl, fun _ => rfl, fun _ => rfl, fun _ => rfl, fun _ => rfl, fun _ => rfl, fun _ => rfl, trivial⟩ rfl ?_
  refine r_weak (lv' := [(0, .ref a0), (1, .int x1), (3, .int x3), (4, .int x4), (5, .int x5), (6, .int r2), (7, .int x2)]) [2, 3, 5, 6, 7, 1, 0] rfl ?_
  exact nd_X3_fillRectangle_L9 G hno xfuel a0 x1 x3 x4 x5 r2 x2 w1 hyp
theorem tg_X4_paintRectangle : xTgt yX4_paintRectangle cX4_paintRectangle 8 (some .int) 6 := ⟨ww_264, ww_40, by decide, by decide +kernel, by decide +kernel⟩
section
variable {Γ : xG} {p : Program} {l : Launch} {e : Env} {s : State} {m : MethodId} {args : Array Value} {below : List Frame} {meth : Method} {c : Code} {rF : Int32 ⊕ String} {wF : xW}
end
set_option maxRecDepth 100000 in
set_option maxHeartbeats 4000000 in
theorem ct_X4_paintRectangle {Γ : xG} {l : Launch} (hl : l.stackTraces = false) (a0 : Nat) (x1 : Int32) (x2 : Int32) (x3 : Int32) (x4 : Int32) (x5 : Int32) (x6 : Int32) (w0 : xW) (rF : Int32 ⊕ String) (wF : xW) (hyp : f_X4_paintRectangle a0 x1 x2 x3 x4 x5 x6 w0 = some (rF, wF)) : xMet Γ l yX4_paintRectangle (xws yX4_paintRectangle cX4_paintRectangle 8 (some .int)) 2 xI [.ref a0, .int x1, .int x2, .int x3, .int x4, .int x5, .int x6] w0 rF wF (x_mc rF) (x_ms rF) := by
  refine xOfW tg_X4_paintRectangle hl (lv0 := [(0, .ref a0), (1, .int x1), (2, .int x2), (3, .int x3), (4, .int x4), (5, .int x5), (6, .int x6)]) (Nat.le_of_ble_eq_true rfl) rfl ?_
  intro p e s m below meth c G hno hin
  rw [f_X4_paintRectangle] at hyp
  refine r_aload_n G 0 dX4_paintRectangle_0 rfl rfl ?_
  refine r_iload_n G 1 dX4_paintRectangle_1 rfl rfl ?_
  obtain ⟨o3, hyp⟩ := x_chk hyp
  refine r_callV (ι := xQ) (T := TX4) (N := 4) (ci := 4) (b := a0) (rest := []) (As := [.int x1]) G hno tg_X4_at (fun r w' h => ct_X4_at (xhl G) _ _ _ r w' h) o3 hyp rfl ww_99 ww_101 ww_100 (by decide) (by decide) rfl rfl (xroom (Nat.le_of_ble_eq_true rfl)) dX4_paintRectangle_2 (push := (fun r2 => [va_rf r2])) (fun _ => rfl) (fun r2 w1 hyp => ?_)
  refine r_astoreq (lv' := [(7, va_rf r2), (0, .ref a0), (1, .int x1), (2, .int x2), (3, .int x3), (4, .int x4), (5, .int x5), (6, .int x6)]) G dX4_paintRectangle_5 (by decide) ⟨fun _ => rfl, fun _ => rfl, fun _ => rfl, fun _ => rfl, fun _ => rfl, fun _ => rfl, fun _ => rfl, trivial⟩ rfl ?_
  refine r_aloadq G 0 dX4_paintRectangle_7 rfl ?_
  refine r_ifnull G 30 dX4_paintRectangle_9 (by decide) hyp (fun hyp => ?_) (fun a4 ha4 hz => ?_)
  · refine r_bipush (v := (-2)) G dX4_paintRectangle_30 (by decide) ?_
    exact r_iret G hyp rfl (Nat.zero_le _) (Nat.zero_le _) dX4_paintRectangle_32
  · clear hyp; subst ha4; have hyp := hz; clear hz
    refine r_iload_n G 3 dX4_paintRectangle_12 rfl rfl ?_
    refine r_iload_n G 4 dX4_paintRectangle_13 rfl rfl ?_
    refine r_callSN (ι := xI) (rest := []) (As := [.int x2, .int x3]) G hno tg_X6_isCell (fun r w' h => ct_X6_isCell (xhl G) _ _ _ r w' h) hyp ww_238 ww_199 (by decide) (by decide) rfl rfl (xroom (Nat.le_of_ble_eq_true rfl)) dX4_paintRectangle_14 (push := (fun r6 => [.int r6])) (fun _ => rfl) (fun r6 w5 hyp => ?_)
    refine r_if_eq G 30 dX4_paintRectangle_17 (by decide) hyp (fun c7 hyp => ?_) (fun c7 hyp => ?_)
    · refine r_bipush (v := (-2)) G dX4_paintRectangle_30 (by decide) ?_
      exact r_iret G hyp rfl (Nat.zero_le _) (Nat.zero_le _) dX4_paintRectangle_32
    · refine r_iload G 5 dX4_paintRectangle_20 rfl ?_
      refine r_iload G 6 dX4_paintRectangle_22 rfl ?_
      refine r_callSN (ι := xI) (rest := []) (As := [.int x4, .int x5]) G hno tg_X6_isCell (fun r w' h => ct_X6_isCell (xhl G) _ _ _ r w' h) hyp ww_238 ww_199 (by decide) (by decide) rfl rfl (xroom (Nat.le_of_ble_eq_true rfl)) dX4_paintRectangle_24 (push := (fun r9 => [.int r9])) (fun _ => rfl) (fun r9 w8 hyp => ?_)
      refine r_if_ne G 33 dX4_paintRectangle_27 (by decide) hyp (fun c10 hyp => ?_) (fun c10 hyp => ?_)
      · refine r_iload_n G 3 dX4_paintRectangle_33 rfl rfl ?_
        refine r_iload G 5 dX4_paintRectangle_34 rfl ?_
        refine r_icmp_gt G 53 dX4_paintRectangle_36 (by decide) hyp (fun c11 hyp => ?_) (fun c11 hyp => ?_)
        · refine r_bipush (v := (-3)) G dX4_paintRectangle_53 (by decide) ?_
          exact r_iret G hyp rfl (Nat.zero_le _) (Nat.zero_le _) dX4_paintRectangle_55
        · refine r_iload_n G 4 dX4_paintRectangle_39 rfl rfl ?_
          refine r_iload G 6 dX4_paintRectangle_40 rfl ?_
          refine r_icmp_gt G 53 dX4_paintRectangle_42 (by decide) hyp (fun c12 hyp => ?_) (fun c12 hyp => ?_)
          · refine r_bipush (v := (-3)) G dX4_paintRectangle_53 (by decide) ?_
            exact r_iret G hyp rfl (Nat.zero_le _) (Nat.zero_le _) dX4_paintRectangle_55
          · refine r_iload G 7 dX4_paintRectangle_45 rfl ?_
            refine r_callSN (ι := xI) (rest := []) (As := [.int x6]) G hno tg_X6_isTone (fun r w' h => ct_X6_isTone (xhl G) _ _ r w' h) hyp ww_259 ww_260 (by decide) (by decide) rfl rfl (xroom (Nat.le_of_ble_eq_true rfl)) dX4_paintRectangle_47 (push := (fun r14 => [.int r14])) (fun _ => rfl) (fun r14 w13 hyp => ?_)
            refine r_if_ne G 56 dX4_paintRectangle_50 (by decide) hyp (fun c15 hyp => ?_) (fun c15 hyp => ?_)
            · refine r_aload_n G 1 dX4_paintRectangle_56 rfl rfl ?_
              refine r_dup G dX4_paintRectangle_57 rfl ?_
              obtain ⟨v16, hv16, hyp⟩ := x_some hyp
              refine r_getv (C := RX4) (T := TX4) (N := 4) (ci := 4) G 2 (x_geti_e hv16) rfl uw_4 (Nat.le_of_ble_eq_true rfl) rfl ww_33 dX4_paintRectangle_58 ?_
              refine r_iload G 5 dX4_paintRectangle_61 rfl ?_
              refine r_iload_n G 3 dX4_paintRectangle_63 rfl rfl ?_
              refine r_isub G dX4_paintRectangle_64 ?_
              refine r_iconst (v := 1) G dX4_paintRectangle_65 (by decide) ?_
              refine r_iadd G dX4_paintRectangle_66 ?_
              refine r_iload G 6 dX4_paintRectangle_67 rfl ?_
              refine r_iload_n G 4 dX4_paintRectangle_69 rfl rfl ?_
              refine r_isub G dX4_paintRectangle_70 ?_
              refine r_iconst (v := 1) G dX4_paintRectangle_71 (by decide) ?_
              refine r_iadd G dX4_paintRectangle_72 ?_
              refine r_imul G dX4_paintRectangle_73 ?_
              refine r_iadd G dX4_paintRectangle_74 ?_
              obtain ⟨w17, hw17, hyp⟩ := x_some hyp
              refine r_putv (C := RX4) (T := TX4) (N := 4) (ci := 4) G tyX4 tyX4_ok nmX4 2 hw17 rfl uw_4 (Nat.le_of_ble_eq_true rfl) rfl ww_33 rfl rfl rfl dX4_paintRectangle_75 ?_
              refine r_aload G 0 dX4_paintRectangle_78 rfl ?_
              refine r_iload_n G 3 dX4_paintRectangle_80 rfl rfl ?_
              refine r_iload_n G 4 dX4_paintRectangle_81 rfl rfl ?_
              refine r_iload G 5 dX4_paintRectangle_82 rfl ?_
              refine r_iload G 6 dX4_paintRectangle_84 rfl ?_
              refine r_iload G 7 dX4_paintRectangle_86 rfl ?_
              obtain ⟨o20, hyp⟩ := x_chk hyp
              refine r_callV (ι := xI) (T := TX3) (N := 3) (ci := 3) (b := a4) (rest := []) (As := [.int x2, .int x3, .int x4, .int x5, .int x6]) G hno tg_X3_fillRectangle (fun r w' h => ct_X3_fillRectangle (xhl G) _ _ _ _ _ _ _ r w' h) o20 hyp rfl ww_261 ww_263 ww_262 (by decide) (by decide) rfl rfl (xroom (Nat.le_of_ble_eq_true rfl)) dX4_paintRectangle_88 (push := (fun r19 => [.int r19])) (fun _ => rfl) (fun r19 w18 hyp => ?_)
              exact r_iret G hyp rfl (Nat.zero_le _) (Nat.zero_le _) dX4_paintRectangle_91
            · refine r_bipush (v := (-3)) G dX4_paintRectangle_53 (by decide) ?_
              exact r_iret G hyp rfl (Nat.zero_le _) (Nat.zero_le _) dX4_paintRectangle_55
      · refine r_bipush (v := (-2)) G dX4_paintRectangle_30 (by decide) ?_
        exact r_iret G hyp rfl (Nat.zero_le _) (Nat.zero_le _) dX4_paintRectangle_32
theorem tg_X4_countVisible : xTgt yX4_countVisible cX4_countVisible 4 (some .int) 0 := ⟨ww_266, ww_40, by decide, by decide +kernel, by decide +kernel⟩
section
variable {Γ : xG} {p : Program} {l : Launch} {e : Env} {s : State} {m : MethodId} {args : Array Value} {below : List Frame} {meth : Method} {c : Code} {rF : Int32 ⊕ String} {wF : xW}
set_option maxRecDepth 100000 in
set_option maxHeartbeats 4000000 in
theorem nd_X4_countVisible_L4 (G : xCx Γ p l s m args meth c RX4 cX4_countVisible 4 (some .int)) (hno : ∀ x ∈ c.exceptionTable.toList, False) : ∀ (n : Nat) (a0 : Nat) (x1 : Int32) (x2 : Int32) (w0 : xW), f_X4_countVisible_L4 n a0 x1 x2 w0 = some (rF, wF) → xAW Γ p l e (xRm 1 (x_mc rF) (x_ms rF)) s m args below meth c 4 (xQm Γ below xI rF wF args s (x_mc rF) (x_ms rF)) w0 0 0 4 [(0, .ref a0), (1, .int x1), (2, .int x2)] [] := by
  intro n
  induction n with
  | zero =>
    intro a0 x1 x2 w0 hyp
    cases (show (none : xO Int32) = some (rF, wF) from hyp)
  | succ n ih =>
    intro a0 x1 x2 w0 hyp
    rw [f_X4_countVisible_L4] at hyp
    refine r_iload_n G 2 dX4_countVisible_4 rfl rfl ?_
    refine r_aload_n G 0 dX4_countVisible_5 rfl rfl ?_
    obtain ⟨v1, hv1, hyp⟩ := x_some hyp
    refine r_getv (C := RX4) (T := TX4) (N := 4) (ci := 4) G 1 (x_geti_e hv1) rfl uw_4 (Nat.le_of_ble_eq_true rfl) rfl ww_32 dX4_countVisible_6 ?_
    refine r_icmp_ge G 38 dX4_countVisible_9 (by decide) hyp (fun c2 hyp => ?_) (fun c2 hyp => ?_)
    · refine r_iload_n G 1 dX4_countVisible_38 rfl rfl ?_
      exact r_iret G hyp rfl (Nat.zero_le _) (Nat.zero_le _) dX4_countVisible_39
    · refine r_aload_n G 0 dX4_countVisible_12 rfl rfl ?_
      refine r_iload_n G 2 dX4_countVisible_13 rfl rfl ?_
      obtain ⟨o5, hyp⟩ := x_chk hyp
      refine r_callV (ι := xQ) (T := TX4) (N := 4) (ci := 4) (b := a0) (rest := []) (As := [.int x2]) G hno tg_X4_at (fun r w' h => ct_X4_at (xhl G) _ _ _ r w' h) o5 hyp rfl ww_99 ww_101 ww_100 (by decide) (by decide) rfl rfl (xroom (Nat.le_of_ble_eq_true rfl)) dX4_countVisible_14 (push := (fun r4 => [va_rf r4])) (fun _ => rfl) (fun r4 w3 hyp => ?_)
      refine r_astore_nq (lv' := [(3, va_rf r4), (0, .ref a0), (1, .int x1), (2, .int x2)]) G dX4_countVisible_17 rfl (by decide) ⟨fun _ => rfl, fun _ => rfl, fun _ => rfl, trivial⟩ rfl ?_
      refine r_aload_nq G 0 dX4_countVisible_18 rfl rfl ?_
      refine r_ifnull G 32 dX4_countVisible_19 (by decide) hyp (fun hyp => ?_) (fun a6 ha6 hz => ?_)
      · refine r_iinc (v := (x2 + 1)) (lv' := [(2, .int (x2 + 1)), (3, va_rf r4), (0, .ref a0), (1, .int x1)]) G 3 dX4_countVisible_32 rfl rfl (by decide) ⟨fun _ => xcq _, fun _ => rfl, fun _ => rfl, fun _ => rfl, trivial⟩ rfl ?_
        refine r_goto G 4 dX4_countVisible_35 (by decide) ?_
        refine r_weak (lv' := [(0, .ref a0), (1, .int x1), (2, .int (x2 + 1))]) [2, 3, 0] rfl ?_
        exact ih a0 x1 (x2 + 1) w3 hyp
      · clear hyp; subst ha6; have hyp := hz; clear hz
        refine r_aload_n G 0 dX4_countVisible_22 rfl rfl ?_
        obtain ⟨v7, hv7, hyp⟩ := x_some hyp
        refine r_getvN (C := RX3) (T := TX3) (N := 3) (ci := 3) G 1 (x_geti_e hv7) rfl uw_3 (Nat.le_of_ble_eq_true rfl) rfl ww_265 dX4_countVisible_23 ?_
        refine r_if_eq G 32 dX4_countVisible_26 (by decide) hyp (fun c8 hyp => ?_) (fun c8 hyp => ?_)
        · refine r_iinc (v := (x2 + 1)) (lv' := [(2, .int (x2 + 1)), (3, .ref a6), (0, .ref a0), (1, .int x1)]) G 3 dX4_countVisible_32 rfl rfl (by decide) ⟨fun _ => rfl, fun _ => rfl, fun _ => rfl, fun _ => rfl, trivial⟩ rfl ?_
          refine r_goto G 4 dX4_countVisible_35 (by decide) ?_
          refine r_weak (lv' := [(0, .ref a0), (1, .int x1), (2, .int (x2 + 1))]) [2, 3, 0] rfl ?_
          exact ih a0 x1 (x2 + 1) w3 hyp
        · refine r_iinc (v := (x1 + 1)) (lv' := [(1, .int (x1 + 1)), (3, .ref a6), (0, .ref a0), (2, .int x2)]) G 2 dX4_countVisible_29 rfl rfl (by decide) ⟨fun _ => rfl, fun _ => rfl, fun _ => rfl, fun _ => rfl, trivial⟩ rfl ?_
          refine r_iinc (v := (x2 + 1)) (lv' := [(2, .int (x2 + 1)), (1, .int (x1 + 1)), (3, .ref a6), (0, .ref a0)]) G 3 dX4_countVisible_32 rfl rfl (by decide) ⟨fun _ => rfl, fun _ => rfl, fun _ => rfl, fun _ => rfl, trivial⟩ rfl ?_
          refine r_goto G 4 dX4_countVisible_35 (by decide) ?_
          refine r_weak (lv' := [(0, .ref a0), (1, .int (x1 + 1)), (2, .int (x2 + 1))]) [3, 1, 0] rfl ?_
          exact ih a0 (x1 + 1) (x2 + 1) w3 hyp
end
set_option maxRecDepth 100000 in
set_option maxHeartbeats 4000000 in
theorem ct_X4_countVisible {Γ : xG} {l : Launch} (hl : l.stackTraces = false) (a0 : Nat) (w0 : xW) (rF : Int32 ⊕ String) (wF : xW) (hyp : f_X4_countVisible a0 w0 = some (rF, wF)) : xMet Γ l yX4_countVisible (xws yX4_countVisible cX4_countVisible 4 (some .int)) 1 xI [.ref a0] w0 rF wF (x_mc rF) (x_ms rF) := by
  refine xOfW tg_X4_countVisible hl (lv0 := [(0, .ref a0)]) (Nat.le_of_ble_eq_true rfl) rfl ?_
  intro p e s m below meth c G hno hin
  rw [f_X4_countVisible] at hyp
  refine r_iconst (v := 0) G dX4_countVisible_0 (by decide) ?_
  refine r_istore_n (lv' := [(1, .int 0), (0, .ref a0)]) G dX4_countVisible_1 rfl (by decide) ⟨fun _ => rfl, trivial⟩ rfl ?_
  refine r_iconst (v := 0) G dX4_countVisible_2 (by decide) ?_
  refine r_istore_n (lv' := [(2, .int 0), (1, .int 0), (0, .ref a0)]) G dX4_countVisible_3 rfl (by decide) ⟨fun _ => rfl, fun _ => rfl, trivial⟩ rfl ?_
  refine r_weak (lv' := [(0, .ref a0), (1, .int 0), (2, .int 0)]) [2, 1, 0] rfl ?_
  exact nd_X4_countVisible_L4 G hno xfuel a0 0 0 w0 hyp
theorem tg_X4_turnVisible : xTgt yX4_turnVisible cX4_turnVisible 4 (some .int) 2 := ⟨ww_270, ww_40, by decide, by decide +kernel, by decide +kernel⟩
section
variable {Γ : xG} {p : Program} {l : Launch} {e : Env} {s : State} {m : MethodId} {args : Array Value} {below : List Frame} {meth : Method} {c : Code} {rF : Int32 ⊕ String} {wF : xW}
end
set_option maxRecDepth 100000 in
set_option maxHeartbeats 4000000 in
theorem ct_X4_turnVisible {Γ : xG} {l : Launch} (hl : l.stackTraces = false) (a0 : Nat) (x1 : Int32) (x2 : Int32) (w0 : xW) (rF : Int32 ⊕ String) (wF : xW) (hyp : f_X4_turnVisible a0 x1 x2 w0 = some (rF, wF)) : xMet Γ l yX4_turnVisible (xws yX4_turnVisible cX4_turnVisible 4 (some .int)) 2 xI [.ref a0, .int x1, .int x2] w0 rF wF (x_mc rF) (x_ms rF) := by
  refine xOfW tg_X4_turnVisible hl (lv0 := [(0, .ref a0), (1, .int x1), (2, .int x2)]) (Nat.le_of_ble_eq_true rfl) rfl ?_
  intro p e s m below meth c G hno hin
  rw [f_X4_turnVisible] at hyp
  refine r_aload_n G 0 dX4_turnVisible_0 rfl rfl ?_
  refine r_iload_n G 1 dX4_turnVisible_1 rfl rfl ?_
  obtain ⟨o3, hyp⟩ := x_chk hyp
  refine r_callV (ι := xQ) (T := TX4) (N := 4) (ci := 4) (b := a0) (rest := []) (As := [.int x1]) G hno tg_X4_at (fun r w' h => ct_X4_at (xhl G) _ _ _ r w' h) o3 hyp rfl ww_99 ww_101 ww_100 (by decide) (by decide) rfl rfl (xroom (Nat.le_of_ble_eq_true rfl)) dX4_turnVisible_2 (push := (fun r2 => [va_rf r2])) (fun _ => rfl) (fun r2 w1 hyp => ?_)
  refine r_astore_nq (lv' := [(3, va_rf r2), (0, .ref a0), (1, .int x1), (2, .int x2)]) G dX4_turnVisible_5 rfl (by decide) ⟨fun _ => rfl, fun _ => rfl, fun _ => rfl, trivial⟩ rfl ?_
  refine r_aload_nq G 0 dX4_turnVisible_6 rfl rfl ?_
  refine r_ifnonnull G 13 dX4_turnVisible_7 (by decide) hyp (fun a4 ha4 hz => ?_) (fun hyp => ?_)
  · clear hyp; subst ha4; have hyp := hz; clear hz
    refine r_aload_n G 0 dX4_turnVisible_13 rfl rfl ?_
    obtain ⟨v5, hv5, hyp⟩ := x_some hyp
    refine r_getvN (C := RX3) (T := TX3) (N := 3) (ci := 3) G 1 (x_geti_e hv5) rfl uw_3 (Nat.le_of_ble_eq_true rfl) rfl ww_265 dX4_turnVisible_14 ?_
    refine r_iload_n G 3 dX4_turnVisible_17 rfl rfl ?_
    refine r_icmp_ne G 24 dX4_turnVisible_18 (by decide) hyp (fun c6 hyp => ?_) (fun c6 hyp => ?_)
    · refine r_aload_n G 0 dX4_turnVisible_24 rfl rfl ?_
      refine r_iload_n G 3 dX4_turnVisible_25 rfl rfl ?_
      obtain ⟨h7, hyp⟩ := x_chk hyp
      obtain ⟨w8, hw8, hyp⟩ := x_some hyp
      refine r_putvN (C := RX3) (T := TX3) (N := 3) (ci := 3) G tyX3 tyX3_ok nmX3 1 hw8 rfl uw_3 (Nat.le_of_ble_eq_true rfl) rfl ww_265 rfl (xnz h7).1 (xnz h7).2 dX4_turnVisible_26 ?_
      refine r_aload_n G 1 dX4_turnVisible_29 rfl rfl ?_
      obtain ⟨o11, hyp⟩ := x_chk hyp
      refine r_callV (ι := xI) (T := TX4) (N := 4) (ci := 4) (b := a0) (rest := []) (As := []) G hno tg_X4_countVisible (fun r w' h => ct_X4_countVisible (xhl G) _ _ r w' h) o11 hyp rfl ww_267 ww_269 ww_268 (by decide) (by decide) rfl rfl (xroom (Nat.le_of_ble_eq_true rfl)) dX4_turnVisible_30 (push := (fun r10 => [.int r10])) (fun _ => rfl) (fun r10 w9 hyp => ?_)
      exact r_iret G hyp rfl (Nat.zero_le _) (Nat.zero_le _) dX4_turnVisible_33
    · refine r_bipush (v := (-4)) G dX4_turnVisible_21 (by decide) ?_
      exact r_iret G hyp rfl (Nat.zero_le _) (Nat.zero_le _) dX4_turnVisible_23
  · refine r_bipush (v := (-2)) G dX4_turnVisible_10 (by decide) ?_
    exact r_iret G hyp rfl (Nat.zero_le _) (Nat.zero_le _) dX4_turnVisible_12
theorem tg_X6_carryOut : xTgt yX6_carryOut cX6_carryOut 4 (some .int) 1 := ⟨ww_293, ww_86, by decide, by decide +kernel, by decide +kernel⟩
section
variable {Γ : xG} {p : Program} {l : Launch} {e : Env} {s : State} {m : MethodId} {args : Array Value} {below : List Frame} {meth : Method} {c : Code} {rF : Int32 ⊕ String} {wF : xW}
end
set_option maxRecDepth 100000 in
set_option maxHeartbeats 4000000 in
theorem ct_X6_carryOut {Γ : xG} {l : Launch} (hl : l.stackTraces = false) (a0 : Nat) (x1 : Option Nat) (w0 : xW) (rF : Int32 ⊕ String) (wF : xW) (hyp : f_X6_carryOut a0 x1 w0 = some (rF, wF)) : xMet Γ l yX6_carryOut (xws yX6_carryOut cX6_carryOut 4 (some .int)) 5 xI [.ref a0, va_rf x1] w0 rF wF (x_mc rF) (x_ms rF) := by
  refine xOfW tg_X6_carryOut hl (lv0 := [(0, .ref a0), (1, va_rf x1)]) (by cases x1 <;> exact Nat.le_of_ble_eq_true rfl) (by cases x1 <;> rfl) ?_
  intro p e s m below meth c G hno hin
  rw [f_X6_carryOut] at hyp
  refine r_aload_nq G 1 dX6_carryOut_0 rfl rfl ?_
  refine r_iconst (v := 0) G dX6_carryOut_1 (by decide) ?_
  refine r_ref hyp (fun a1 ha1 hz => ?_)
  clear hyp; subst ha1; have hyp := hz; clear hz
  obtain ⟨o4, hyp⟩ := x_chk hyp
  refine r_callV (ι := xI) (T := TX0) (N := 6) (ci := 0) (b := a1) (rest := []) (As := [.int 0]) G hno tg_X0_number (fun r w' h => ct_X0_number (xhl G) _ _ _ r w' h) o4 hyp rfl ww_271 ww_273 ww_272 (by decide) (by decide) rfl rfl (xroom (Nat.le_of_ble_eq_true rfl)) dX6_carryOut_2 (push := (fun r3 => [.int r3])) (fun _ => rfl) (fun r3 w2 hyp => ?_)
  refine r_istore_n (lv' := [(2, .int r3), (0, .ref a0), (1, .ref a1)]) G dX6_carryOut_5 rfl (by decide) ⟨fun _ => rfl, fun _ => rfl, trivial⟩ rfl ?_
  refine r_aload_n G 2 dX6_carryOut_6 rfl rfl ?_
  refine r_iconst (v := 1) G dX6_carryOut_7 (by decide) ?_
  obtain ⟨o7, hyp⟩ := x_chk hyp
  refine r_callV (ι := xI) (T := TX0) (N := 6) (ci := 0) (b := a1) (rest := []) (As := [.int 1]) G hno tg_X0_number (fun r w' h => ct_X0_number (xhl G) _ _ _ r w' h) o7 hyp rfl ww_271 ww_273 ww_272 (by decide) (by decide) rfl rfl (xroom (Nat.le_of_ble_eq_true rfl)) dX6_carryOut_8 (push := (fun r6 => [.int r6])) (fun _ => rfl) (fun r6 w5 hyp => ?_)
  refine r_istore_n (lv' := [(3, .int r6), (2, .int r3), (0, .ref a0), (1, .ref a1)]) G dX6_carryOut_11 rfl (by decide) ⟨fun _ => rfl, fun _ => rfl, fun _ => rfl, trivial⟩ rfl ?_
  refine r_aload_n G 3 dX6_carryOut_12 rfl rfl ?_
  obtain ⟨v8, hv8, hyp⟩ := x_some hyp
  refine r_getvN (C := RX0) (T := TX0) (N := 6) (ci := 0) G 3 (x_geti_e hv8) rfl uw_0 (Nat.le_of_ble_eq_true rfl) rfl ww_274 dX6_carryOut_13 ?_
  rcases x_if hyp with ⟨k9, hyp⟩ | ⟨k9, hyp⟩
  · refine r_tabK G 0 k9 64 dX6_carryOut_16 (by decide) (by decide) rfl (by decide) ?_
    refine r_aload_n G 2 dX6_carryOut_64 rfl rfl ?_
    obtain ⟨v10, hv10, hyp⟩ := x_some hyp
    refine r_getv (C := RX6) (T := TX6) (N := 9) (ci := 6) G 0 (x_getr_e hv10) rfl uw_6 (Nat.le_of_ble_eq_true rfl) rfl ww_60 dX6_carryOut_65 ?_
    refine r_iload_n G 1 dX6_carryOut_68 rfl rfl ?_
    refine r_i2c G dX6_carryOut_69 ?_
    refine r_ref hyp (fun a11 ha11 hz => ?_)
    clear hyp; subst ha11; have hyp := hz; clear hz
    obtain ⟨o14, hyp⟩ := x_chk hyp
    refine r_callV (ι := xI) (T := TX4) (N := 4) (ci := 4) (b := a11) (rest := []) (As := [.int (x_c r3)]) G hno tg_X4_addOnTop (fun r w' h => ct_X4_addOnTop (xhl G) _ _ _ r w' h) o14 hyp rfl ww_132 ww_134 ww_133 (by decide) (by decide) rfl rfl (xroom (Nat.le_of_ble_eq_true rfl)) dX6_carryOut_70 (push := (fun r13 => [.int r13])) (fun _ => rfl) (fun r13 w12 hyp => ?_)
    exact r_iret G hyp rfl (Nat.zero_le _) (Nat.zero_le _) dX6_carryOut_73
  rcases x_if hyp with ⟨k15, hyp⟩ | ⟨k15, hyp⟩
  · refine r_tabK G 1 k15 74 dX6_carryOut_16 (by decide) (by decide) rfl (by decide) ?_
    refine r_aload_n G 2 dX6_carryOut_74 rfl rfl ?_
    obtain ⟨v16, hv16, hyp⟩ := x_some hyp
    refine r_getv (C := RX6) (T := TX6) (N := 9) (ci := 6) G 0 (x_getr_e hv16) rfl uw_6 (Nat.le_of_ble_eq_true rfl) rfl ww_60 dX6_carryOut_75 ?_
    refine r_iload_n G 1 dX6_carryOut_78 rfl rfl ?_
    refine r_iload_n G 0 dX6_carryOut_79 rfl rfl ?_
    refine r_aload_n G 3 dX6_carryOut_80 rfl rfl ?_
    refine r_iconst (v := 2) G dX6_carryOut_81 (by decide) ?_
    obtain ⟨o19, hyp⟩ := x_chk hyp
    refine r_callV (ι := xI) (T := TX0) (N := 6) (ci := 0) (b := a1) (rest := [.int r6, .int r3, va_rf v16]) (As := [.int 2]) G hno tg_X0_number (fun r w' h => ct_X0_number (xhl G) _ _ _ r w' h) o19 hyp rfl ww_271 ww_273 ww_272 (by decide) (by decide) rfl rfl (xroom (Nat.le_of_ble_eq_true rfl)) dX6_carryOut_82 (push := (fun r18 => [.int r18, .int r6, .int r3, va_rf v16])) (fun _ => rfl) (fun r18 w17 hyp => ?_)
    refine r_aload_n G 3 dX6_carryOut_85 rfl rfl ?_
    refine r_iconst (v := 3) G dX6_carryOut_86 (by decide) ?_
    obtain ⟨o22, hyp⟩ := x_chk hyp
    refine r_callV (ι := xI) (T := TX0) (N := 6) (ci := 0) (b := a1) (rest := [.int r18, .int r6, .int r3, va_rf v16]) (As := [.int 3]) G hno tg_X0_number (fun r w' h => ct_X0_number (xhl G) _ _ _ r w' h) o22 hyp rfl ww_271 ww_273 ww_272 (by decide) (by decide) rfl rfl (xroom (Nat.le_of_ble_eq_true rfl)) dX6_carryOut_87 (push := (fun r21 => [.int r21, .int r18, .int r6, .int r3, va_rf v16])) (fun _ => rfl) (fun r21 w20 hyp => ?_)
    refine r_aload_n G 3 dX6_carryOut_90 rfl rfl ?_
    refine r_iconst (v := 4) G dX6_carryOut_91 (by decide) ?_
    obtain ⟨o25, hyp⟩ := x_chk hyp
    refine r_callV (ι := xI) (T := TX0) (N := 6) (ci := 0) (b := a1) (rest := [.int r21, .int r18, .int r6, .int r3, va_rf v16]) (As := [.int 4]) G hno tg_X0_number (fun r w' h => ct_X0_number (xhl G) _ _ _ r w' h) o25 hyp rfl ww_271 ww_273 ww_272 (by decide) (by decide) rfl rfl (by simp only [List.map_cons, List.map_nil, List.sum_cons, List.sum_nil, xcq]; exact Nat.le_of_ble_eq_true rfl) dX6_carryOut_92 (push := (fun r24 => [.int r24, .int r21, .int r18, .int r6, .int r3, va_rf v16])) (fun _ => rfl) (fun r24 w23 hyp => ?_)
    refine r_aload_n G 3 dX6_carryOut_95 rfl rfl ?_
    refine r_iconst (v := 5) G dX6_carryOut_96 (by decide) ?_
    obtain ⟨o28, hyp⟩ := x_chk hyp
    refine r_callV (ι := xI) (T := TX0) (N := 6) (ci := 0) (b := a1) (rest := [.int r24, .int r21, .int r18, .int r6, .int r3, va_rf v16]) (As := [.int 5]) G hno tg_X0_number (fun r w' h => ct_X0_number (xhl G) _ _ _ r w' h) o28 hyp rfl ww_271 ww_273 ww_272 (by decide) (by decide) rfl rfl (by simp only [List.map_cons, List.map_nil, List.sum_cons, List.sum_nil, xcq]; exact Nat.le_of_ble_eq_true rfl) dX6_carryOut_97 (push := (fun r27 => [.int r27, .int r24, .int r21, .int r18, .int r6, .int r3, va_rf v16])) (fun _ => rfl) (fun r27 w26 hyp => ?_)
    refine r_ref hyp (fun a29 ha29 hz => ?_)
    clear hyp; subst ha29; have hyp := hz; clear hz
    obtain ⟨o32, hyp⟩ := x_chk hyp
    refine r_callV (ι := xI) (T := TX4) (N := 4) (ci := 4) (b := a29) (rest := []) (As := [.int r3, .int r6, .int r18, .int r21, .int r24, .int r27]) G hno tg_X4_paintRectangle (fun r w' h => ct_X4_paintRectangle (xhl G) _ _ _ _ _ _ _ _ r w' h) o32 hyp rfl ww_275 ww_277 ww_276 (by decide) (by decide) rfl rfl (xroom (Nat.le_of_ble_eq_true rfl)) dX6_carryOut_100 (push := (fun r31 => [.int r31])) (fun _ => rfl) (fun r31 w30 hyp => ?_)
    exact r_iret G hyp rfl (Nat.zero_le _) (Nat.zero_le _) dX6_carryOut_103
  rcases x_if hyp with ⟨k33, hyp⟩ | ⟨k33, hyp⟩
  · refine r_tabK G 2 k33 104 dX6_carryOut_16 (by decide) (by decide) rfl (by decide) ?_
    refine r_aload_n G 2 dX6_carryOut_104 rfl rfl ?_
    obtain ⟨v34, hv34, hyp⟩ := x_some hyp
    refine r_getv (C := RX6) (T := TX6) (N := 9) (ci := 6) G 0 (x_getr_e hv34) rfl uw_6 (Nat.le_of_ble_eq_true rfl) rfl ww_60 dX6_carryOut_105 ?_
    refine r_iload_n G 1 dX6_carryOut_108 rfl rfl ?_
    refine r_iload_n G 0 dX6_carryOut_109 rfl rfl ?_
    refine r_aload_n G 3 dX6_carryOut_110 rfl rfl ?_
    refine r_iconst (v := 2) G dX6_carryOut_111 (by decide) ?_
    obtain ⟨o37, hyp⟩ := x_chk hyp
    refine r_callV (ι := xI) (T := TX0) (N := 6) (ci := 0) (b := a1) (rest := [.int r6, .int r3, va_rf v34]) (As := [.int 2]) G hno tg_X0_number (fun r w' h => ct_X0_number (xhl G) _ _ _ r w' h) o37 hyp rfl ww_271 ww_273 ww_272 (by decide) (by decide) rfl rfl (xroom (Nat.le_of_ble_eq_true rfl)) dX6_carryOut_112 (push := (fun r36 => [.int r36, .int r6, .int r3, va_rf v34])) (fun _ => rfl) (fun r36 w35 hyp => ?_)
    refine r_aload_n G 3 dX6_carryOut_115 rfl rfl ?_
    refine r_iconst (v := 3) G dX6_carryOut_116 (by decide) ?_
    obtain ⟨o40, hyp⟩ := x_chk hyp
    refine r_callV (ι := xI) (T := TX0) (N := 6) (ci := 0) (b := a1) (rest := [.int r36, .int r6, .int r3, va_rf v34]) (As := [.int 3]) G hno tg_X0_number (fun r w' h => ct_X0_number (xhl G) _ _ _ r w' h) o40 hyp rfl ww_271 ww_273 ww_272 (by decide) (by decide) rfl rfl (xroom (Nat.le_of_ble_eq_true rfl)) dX6_carryOut_117 (push := (fun r39 => [.int r39, .int r36, .int r6, .int r3, va_rf v34])) (fun _ => rfl) (fun r39 w38 hyp => ?_)
    refine r_ref hyp (fun a41 ha41 hz => ?_)
    clear hyp; subst ha41; have hyp := hz; clear hz
    obtain ⟨o44, hyp⟩ := x_chk hyp
    refine r_callV (ι := xI) (T := TX4) (N := 4) (ci := 4) (b := a41) (rest := []) (As := [.int r3, .int r6, .int r36, .int r39]) G hno tg_X4_eraseCircle (fun r w' h => ct_X4_eraseCircle (xhl G) _ _ _ _ _ _ r w' h) o44 hyp rfl ww_278 ww_280 ww_279 (by decide) (by decide) rfl rfl (xroom (Nat.le_of_ble_eq_true rfl)) dX6_carryOut_120 (push := (fun r43 => [.int r43])) (fun _ => rfl) (fun r43 w42 hyp => ?_)
    exact r_iret G hyp rfl (Nat.zero_le _) (Nat.zero_le _) dX6_carryOut_123
  rcases x_if hyp with ⟨k45, hyp⟩ | ⟨k45, hyp⟩
  · refine r_tabK G 3 k45 124 dX6_carryOut_16 (by decide) (by decide) rfl (by decide) ?_
    refine r_aload_n G 2 dX6_carryOut_124 rfl rfl ?_
    obtain ⟨v46, hv46, hyp⟩ := x_some hyp
    refine r_getv (C := RX6) (T := TX6) (N := 9) (ci := 6) G 0 (x_getr_e hv46) rfl uw_6 (Nat.le_of_ble_eq_true rfl) rfl ww_60 dX6_carryOut_125 ?_
    refine r_iload_n G 1 dX6_carryOut_128 rfl rfl ?_
    refine r_iconst (v := 0) G dX6_carryOut_129 (by decide) ?_
    refine r_ref hyp (fun a47 ha47 hz => ?_)
    clear hyp; subst ha47; have hyp := hz; clear hz
    obtain ⟨o50, hyp⟩ := x_chk hyp
    refine r_callV (ι := xI) (T := TX4) (N := 4) (ci := 4) (b := a47) (rest := []) (As := [.int r3, .int 0]) G hno tg_X4_turnVisible (fun r w' h => ct_X4_turnVisible (xhl G) _ _ _ _ r w' h) o50 hyp rfl ww_281 ww_283 ww_282 (by decide) (by decide) rfl rfl (xroom (Nat.le_of_ble_eq_true rfl)) dX6_carryOut_130 (push := (fun r49 => [.int r49])) (fun _ => rfl) (fun r49 w48 hyp => ?_)
    exact r_iret G hyp rfl (Nat.zero_le _) (Nat.zero_le _) dX6_carryOut_133
  rcases x_if hyp with ⟨k51, hyp⟩ | ⟨k51, hyp⟩
  · refine r_tabK G 4 k51 134 dX6_carryOut_16 (by decide) (by decide) rfl (by decide) ?_
    refine r_aload_n G 2 dX6_carryOut_134 rfl rfl ?_
    obtain ⟨v52, hv52, hyp⟩ := x_some hyp
    refine r_getv (C := RX6) (T := TX6) (N := 9) (ci := 6) G 0 (x_getr_e hv52) rfl uw_6 (Nat.le_of_ble_eq_true rfl) rfl ww_60 dX6_carryOut_135 ?_
    refine r_iload_n G 1 dX6_carryOut_138 rfl rfl ?_
    refine r_iconst (v := 1) G dX6_carryOut_139 (by decide) ?_
    refine r_ref hyp (fun a53 ha53 hz => ?_)
    clear hyp; subst ha53; have hyp := hz; clear hz
    obtain ⟨o56, hyp⟩ := x_chk hyp
    refine r_callV (ι := xI) (T := TX4) (N := 4) (ci := 4) (b := a53) (rest := []) (As := [.int r3, .int 1]) G hno tg_X4_turnVisible (fun r w' h => ct_X4_turnVisible (xhl G) _ _ _ _ r w' h) o56 hyp rfl ww_281 ww_283 ww_282 (by decide) (by decide) rfl rfl (xroom (Nat.le_of_ble_eq_true rfl)) dX6_carryOut_140 (push := (fun r55 => [.int r55])) (fun _ => rfl) (fun r55 w54 hyp => ?_)
    exact r_iret G hyp rfl (Nat.zero_le _) (Nat.zero_le _) dX6_carryOut_143
  rcases x_if hyp with ⟨k57, hyp⟩ | ⟨k57, hyp⟩
  · refine r_tabK G 5 k57 144 dX6_carryOut_16 (by decide) (by decide) rfl (by decide) ?_
    refine r_aload_n G 2 dX6_carryOut_144 rfl rfl ?_
    obtain ⟨v58, hv58, hyp⟩ := x_some hyp
    refine r_getv (C := RX6) (T := TX6) (N := 9) (ci := 6) G 0 (x_getr_e hv58) rfl uw_6 (Nat.le_of_ble_eq_true rfl) rfl ww_60 dX6_carryOut_145 ?_
    refine r_iload_n G 1 dX6_carryOut_148 rfl rfl ?_
    refine r_ref hyp (fun a59 ha59 hz => ?_)
    clear hyp; subst ha59; have hyp := hz; clear hz
    obtain ⟨o62, hyp⟩ := x_chk hyp
    refine r_callV (ι := xI) (T := TX4) (N := 4) (ci := 4) (b := a59) (rest := []) (As := [.int r3]) G hno tg_X4_mergeWithLower (fun r w' h => ct_X4_mergeWithLower (xhl G) _ _ _ r w' h) o62 hyp rfl ww_284 ww_286 ww_285 (by decide) (by decide) rfl rfl (xroom (Nat.le_of_ble_eq_true rfl)) dX6_carryOut_149 (push := (fun r61 => [.int r61])) (fun _ => rfl) (fun r61 w60 hyp => ?_)
    exact r_iret G hyp rfl (Nat.zero_le _) (Nat.zero_le _) dX6_carryOut_152
  rcases x_if hyp with ⟨k63, hyp⟩ | ⟨k63, hyp⟩
  · refine r_tabK G 6 k63 153 dX6_carryOut_16 (by decide) (by decide) rfl (by decide) ?_
    refine r_aload_n G 2 dX6_carryOut_153 rfl rfl ?_
    refine r_iload_n G 1 dX6_carryOut_154 rfl rfl ?_
    refine r_iload_n G 0 dX6_carryOut_155 rfl rfl ?_
    obtain ⟨o66, hyp⟩ := x_chk hyp
    refine r_callV (ι := xI) (T := TX6) (N := 9) (ci := 6) (b := a0) (rest := []) (As := [.int r3, .int r6]) G hno tg_X6_moveAndCompare (fun r w' h => ct_X6_moveAndCompare (xhl G) _ _ _ _ r w' h) o66 hyp rfl ww_287 ww_289 ww_288 (by decide) (by decide) rfl rfl (xroom (Nat.le_of_ble_eq_true rfl)) dX6_carryOut_156 (push := (fun r65 => [.int r65])) (fun _ => rfl) (fun r65 w64 hyp => ?_)
    exact r_iret G hyp rfl (Nat.zero_le _) (Nat.zero_le _) dX6_carryOut_159
  rcases x_if hyp with ⟨k67, hyp⟩ | ⟨k67, hyp⟩
  · refine r_tabK G 7 k67 160 dX6_carryOut_16 (by decide) (by decide) rfl (by decide) ?_
    refine r_aload_n G 2 dX6_carryOut_160 rfl rfl ?_
    obtain ⟨v68, hv68, hyp⟩ := x_some hyp
    refine r_getv (C := RX6) (T := TX6) (N := 9) (ci := 6) G 0 (x_getr_e hv68) rfl uw_6 (Nat.le_of_ble_eq_true rfl) rfl ww_60 dX6_carryOut_161 ?_
    refine r_iload_n G 1 dX6_carryOut_164 rfl rfl ?_
    refine r_iload_n G 0 dX6_carryOut_165 rfl rfl ?_
    refine r_ref hyp (fun a69 ha69 hz => ?_)
    clear hyp; subst ha69; have hyp := hz; clear hz
    obtain ⟨o72, hyp⟩ := x_chk hyp
    refine r_callV (ι := xI) (T := TX4) (N := 4) (ci := 4) (b := a69) (rest := []) (As := [.int r3, .int r6]) G hno tg_X4_addShadow (fun r w' h => ct_X4_addShadow (xhl G) _ _ _ _ r w' h) o72 hyp rfl ww_290 ww_292 ww_291 (by decide) (by decide) rfl rfl (xroom (Nat.le_of_ble_eq_true rfl)) dX6_carryOut_166 (push := (fun r71 => [.int r71])) (fun _ => rfl) (fun r71 w70 hyp => ?_)
    exact r_iret G hyp rfl (Nat.zero_le _) (Nat.zero_le _) dX6_carryOut_169
  refine r_tabD G [0, 1, 2, 3, 4, 5, 6, 7] (by intro k hk; simp only [List.mem_cons, List.not_mem_nil, or_false] at hk; rcases hk with rfl | rfl | rfl | rfl | rfl | rfl | rfl | rfl <;> assumption) 170 dX6_carryOut_16 (by decide) (by decide) ?_
  refine r_bipush (v := (-3)) G dX6_carryOut_170 (by decide) ?_
  exact r_iret G hyp rfl (Nat.zero_le _) (Nat.zero_le _) dX6_carryOut_172
theorem tg_X0_formOf : xTgt yX0_formOf cX0_formOf 1 (some (.object "java/lang/String")) 1 := ⟨ww_294, ww_12, by decide, by decide +kernel, by decide +kernel⟩
section
variable {Γ : xG} {p : Program} {l : Launch} {e : Env} {s : State} {m : MethodId} {args : Array Value} {below : List Frame} {meth : Method} {c : Code} {rF : Nat ⊕ String} {wF : xW}
end
set_option maxRecDepth 100000 in
set_option maxHeartbeats 4000000 in
theorem ct_X0_formOf {Γ : xG} {l : Launch} (hl : l.stackTraces = false) (x0 : Int32) (w0 : xW) (rF : Nat ⊕ String) (wF : xW) (hyp : f_X0_formOf x0 w0 = some (rF, wF)) : xMet Γ l yX0_formOf (xws yX0_formOf cX0_formOf 1 (some (.object "java/lang/String"))) 0 (xS Γ) [.int x0] w0 rF wF (x_mc rF) (x_ms rF) := by
  refine xOfW tg_X0_formOf hl (lv0 := [(0, .int x0)]) (Nat.le_of_ble_eq_true rfl) rfl ?_
  intro p e s m below meth c G hno hin
  rw [f_X0_formOf] at hyp
  refine r_iload_n G 0 dX0_formOf_0 rfl rfl ?_
  rcases x_if hyp with ⟨k1, hyp⟩ | ⟨k1, hyp⟩
  · refine r_tabK G 0 k1 44 dX0_formOf_1 (by decide) (by decide) rfl (by decide) ?_
    refine r_ldcs G 18 dX0_formOf_44 lit_18 ?_
    exact r_sret G hyp (Nat.zero_le _) (Nat.zero_le _) dX0_formOf_46
  rcases x_if hyp with ⟨k2, hyp⟩ | ⟨k2, hyp⟩
  · refine r_tabK G 1 k2 47 dX0_formOf_1 (by decide) (by decide) rfl (by decide) ?_
    refine r_ldcs G 19 dX0_formOf_47 lit_19 ?_
    exact r_sret G hyp (Nat.zero_le _) (Nat.zero_le _) dX0_formOf_49
  rcases x_if hyp with ⟨k3, hyp⟩ | ⟨k3, hyp⟩
  · refine r_tabK G 2 k3 50 dX0_formOf_1 (by decide) (by decide) rfl (by decide) ?_
    refine r_ldcs G 20 dX0_formOf_50 lit_20 ?_
    exact r_sret G hyp (Nat.zero_le _) (Nat.zero_le _) dX0_formOf_52
  rcases x_if hyp with ⟨k4, hyp⟩ | ⟨k4, hyp⟩
  · refine r_tabK G 3 k4 53 dX0_formOf_1 (by decide) (by decide) rfl (by decide) ?_
    refine r_ldcs G 21 dX0_formOf_53 lit_21 ?_
    exact r_sret G hyp (Nat.zero_le _) (Nat.zero_le _) dX0_formOf_55
  rcases x_if hyp with ⟨k5, hyp⟩ | ⟨k5, hyp⟩
  · refine r_tabK G 4 k5 56 dX0_formOf_1 (by decide) (by decide) rfl (by decide) ?_
    refine r_ldcs G 22 dX0_formOf_56 lit_22 ?_
    exact r_sret G hyp (Nat.zero_le _) (Nat.zero_le _) dX0_formOf_58
  rcases x_if hyp with ⟨k6, hyp⟩ | ⟨k6, hyp⟩
  · refine r_tabK G 5 k6 59 dX0_formOf_1 (by decide) (by decide) rfl (by decide) ?_
    refine r_ldcs G 23 dX0_formOf_59 lit_23 ?_
    exact r_sret G hyp (Nat.zero_le _) (Nat.zero_le _) dX0_formOf_61
  rcases x_if hyp with ⟨k7, hyp⟩ | ⟨k7, hyp⟩
  · refine r_tabK G 6 k7 62 dX0_formOf_1 (by decide) (by decide) rfl (by decide) ?_
    refine r_ldcs G 24 dX0_formOf_62 lit_24 ?_
    exact r_sret G hyp (Nat.zero_le _) (Nat.zero_le _) dX0_formOf_64
  refine r_tabD G [0, 1, 2, 3, 4, 5, 6] (by intro k hk; simp only [List.mem_cons, List.not_mem_nil, or_false] at hk; rcases hk with rfl | rfl | rfl | rfl | rfl | rfl | rfl <;> assumption) 65 dX0_formOf_1 (by decide) (by decide) ?_
  refine r_ldcs G 25 dX0_formOf_65 lit_25 ?_
  exact r_sret G hyp (Nat.zero_le _) (Nat.zero_le _) dX0_formOf_67
theorem tg_X0_isNext : xTgt yX0_isNext cX0_isNext 3 (some .boolean) 1 := ⟨ww_296, ww_12, by decide, by decide +kernel, by decide +kernel⟩
section
variable {Γ : xG} {p : Program} {l : Launch} {e : Env} {s : State} {m : MethodId} {args : Array Value} {below : List Frame} {meth : Method} {c : Code} {rF : Int32 ⊕ String} {wF : xW}
end
set_option maxRecDepth 100000 in
set_option maxHeartbeats 4000000 in
theorem ct_X0_isNext {Γ : xG} {l : Launch} (hl : l.stackTraces = false) (a0 : Nat) (x1 : Int32) (w0 : xW) (rF : Int32 ⊕ String) (wF : xW) (hyp : f_X0_isNext a0 x1 w0 = some (rF, wF)) : xMet Γ l yX0_isNext (xws yX0_isNext cX0_isNext 3 (some .boolean)) 1 xI [.ref a0, .int x1] w0 rF wF (x_mc rF) (x_ms rF) := by
  refine xOfW tg_X0_isNext hl (lv0 := [(0, .ref a0), (1, .int x1)]) (Nat.le_of_ble_eq_true rfl) rfl ?_
  intro p e s m below meth c G hno hin
  rw [f_X0_isNext] at hyp
  refine r_aload_n G 0 dX0_isNext_0 rfl rfl ?_
  obtain ⟨v1, hv1, hyp⟩ := x_some hyp
  refine r_getv (C := RX0) (T := TX0) (N := 6) (ci := 0) G 2 (x_geti_e hv1) rfl uw_0 (Nat.le_of_ble_eq_true rfl) rfl ww_6 dX0_isNext_1 ?_
  refine r_if_lt G 30 dX0_isNext_4 (by decide) hyp (fun c2 hyp => ?_) (fun c2 hyp => ?_)
  · refine r_iconst (v := 0) G dX0_isNext_30 (by decide) ?_
    exact r_iret G hyp (by decide) (Nat.zero_le _) (Nat.zero_le _) dX0_isNext_31
  · refine r_aload_n G 0 dX0_isNext_7 rfl rfl ?_
    obtain ⟨v3, hv3, hyp⟩ := x_some hyp
    refine r_getv (C := RX0) (T := TX0) (N := 6) (ci := 0) G 2 (x_geti_e hv3) rfl uw_0 (Nat.le_of_ble_eq_true rfl) rfl ww_6 dX0_isNext_8 ?_
    refine r_aload_n G 0 dX0_isNext_11 rfl rfl ?_
    obtain ⟨v4, hv4, hyp⟩ := x_some hyp
    refine r_getv (C := RX0) (T := TX0) (N := 6) (ci := 0) G 1 (x_geti_e hv4) rfl uw_0 (Nat.le_of_ble_eq_true rfl) rfl ww_5 dX0_isNext_12 ?_
    refine r_icmp_ge G 30 dX0_isNext_15 (by decide) hyp (fun c5 hyp => ?_) (fun c5 hyp => ?_)
    · refine r_iconst (v := 0) G dX0_isNext_30 (by decide) ?_
      exact r_iret G hyp (by decide) (Nat.zero_le _) (Nat.zero_le _) dX0_isNext_31
    · refine r_aload_n G 0 dX0_isNext_18 rfl rfl ?_
      obtain ⟨v6, hv6, hyp⟩ := x_some hyp
      refine r_getv (C := RX0) (T := TX0) (N := 6) (ci := 0) G 2 (x_geti_e hv6) rfl uw_0 (Nat.le_of_ble_eq_true rfl) rfl ww_6 dX0_isNext_19 ?_
      refine r_aload_n G 0 dX0_isNext_22 rfl rfl ?_
      obtain ⟨v7, hv7, hyp⟩ := x_some hyp
      refine r_getv (C := RX0) (T := TX0) (N := 6) (ci := 0) G 0 (x_getr_e hv7) rfl uw_0 (Nat.le_of_ble_eq_true rfl) rfl ww_4 dX0_isNext_23 ?_
      refine r_ref hyp (fun a8 ha8 hz => ?_)
      clear hyp; subst ha8; have hyp := hz; clear hz
      obtain ⟨v9, hv9, hyp⟩ := x_some hyp
      refine r_len G hv9 dX0_isNext_26 ?_
      refine r_icmp_lt G 32 dX0_isNext_27 (by decide) hyp (fun c10 hyp => ?_) (fun c10 hyp => ?_)
      · refine r_aload_n G 0 dX0_isNext_32 rfl rfl ?_
        obtain ⟨v11, hv11, hyp⟩ := x_some hyp
        refine r_getv (C := RX0) (T := TX0) (N := 6) (ci := 0) G 0 (x_getr_e hv11) rfl uw_0 (Nat.le_of_ble_eq_true rfl) rfl ww_4 dX0_isNext_33 ?_
        refine r_aload_n G 0 dX0_isNext_36 rfl rfl ?_
        obtain ⟨v12, hv12, hyp⟩ := x_some hyp
        refine r_getv (C := RX0) (T := TX0) (N := 6) (ci := 0) G 2 (x_geti_e hv12) rfl uw_0 (Nat.le_of_ble_eq_true rfl) rfl ww_6 dX0_isNext_37 ?_
        refine r_ref hyp (fun a13 ha13 hz => ?_)
        clear hyp; subst ha13; have hyp := hz; clear hz
        obtain ⟨v14, hv14, hyp⟩ := x_some hyp
        refine r_cald G hv14 dX0_isNext_40 ?_
        refine r_istore_n (lv' := [(2, .int v14), (0, .ref a0), (1, .int x1)]) G dX0_isNext_41 rfl (by decide) ⟨fun _ => rfl, fun _ => rfl, trivial⟩ rfl ?_
        refine r_iload_n G 2 dX0_isNext_42 rfl rfl ?_
        refine r_bipush (v := 42) G dX0_isNext_43 (by decide) ?_
        refine r_icmp_ne G 53 dX0_isNext_45 (by decide) hyp (fun c15 hyp => ?_) (fun c15 hyp => ?_)
        · refine r_iload_n G 2 dX0_isNext_53 rfl rfl ?_
          refine r_bipush (v := 35) G dX0_isNext_54 (by decide) ?_
          refine r_icmp_eq G 65 dX0_isNext_56 (by decide) hyp (fun c16 hyp => ?_) (fun c16 hyp => ?_)
          · refine r_iload_n G 0 dX0_isNext_65 rfl rfl ?_
            refine r_bipush (v := 48) G dX0_isNext_66 (by decide) ?_
            refine r_icmp_lt G 81 dX0_isNext_68 (by decide) hyp (fun c17 hyp => ?_) (fun c17 hyp => ?_)
            · refine r_iconst (v := 0) G dX0_isNext_81 (by decide) ?_
              exact r_iret G hyp (by decide) (Nat.zero_le _) (Nat.zero_le _) dX0_isNext_82
            · refine r_iload_n G 0 dX0_isNext_71 rfl rfl ?_
              refine r_bipush (v := 57) G dX0_isNext_72 (by decide) ?_
              refine r_icmp_gt G 81 dX0_isNext_74 (by decide) hyp (fun c18 hyp => ?_) (fun c18 hyp => ?_)
              · refine r_iconst (v := 0) G dX0_isNext_81 (by decide) ?_
                exact r_iret G hyp (by decide) (Nat.zero_le _) (Nat.zero_le _) dX0_isNext_82
              · refine r_iconst (v := 1) G dX0_isNext_77 (by decide) ?_
                refine r_goto G 82 dX0_isNext_78 (by decide) ?_
                exact r_iret G hyp (by decide) (Nat.zero_le _) (Nat.zero_le _) dX0_isNext_82
          · refine r_iload_n G 2 dX0_isNext_59 rfl rfl ?_
            refine r_bipush (v := 43) G dX0_isNext_60 (by decide) ?_
            refine r_icmp_ne G 83 dX0_isNext_62 (by decide) hyp (fun c19 hyp => ?_) (fun c19 hyp => ?_)
            · refine r_iload_n G 0 dX0_isNext_83 rfl rfl ?_
              refine r_iload_n G 2 dX0_isNext_84 rfl rfl ?_
              refine r_icmp_ne G 92 dX0_isNext_85 (by decide) hyp (fun c20 hyp => ?_) (fun c20 hyp => ?_)
              · refine r_iconst (v := 0) G dX0_isNext_92 (by decide) ?_
                exact r_iret G hyp (by decide) (Nat.zero_le _) (Nat.zero_le _) dX0_isNext_93
              · refine r_iconst (v := 1) G dX0_isNext_88 (by decide) ?_
                refine r_goto G 93 dX0_isNext_89 (by decide) ?_
                exact r_iret G hyp (by decide) (Nat.zero_le _) (Nat.zero_le _) dX0_isNext_93
            · refine r_iload_n G 0 dX0_isNext_65 rfl rfl ?_
              refine r_bipush (v := 48) G dX0_isNext_66 (by decide) ?_
              refine r_icmp_lt G 81 dX0_isNext_68 (by decide) hyp (fun c21 hyp => ?_) (fun c21 hyp => ?_)
              · refine r_iconst (v := 0) G dX0_isNext_81 (by decide) ?_
                exact r_iret G hyp (by decide) (Nat.zero_le _) (Nat.zero_le _) dX0_isNext_82
              · refine r_iload_n G 0 dX0_isNext_71 rfl rfl ?_
                refine r_bipush (v := 57) G dX0_isNext_72 (by decide) ?_
                refine r_icmp_gt G 81 dX0_isNext_74 (by decide) hyp (fun c22 hyp => ?_) (fun c22 hyp => ?_)
                · refine r_iconst (v := 0) G dX0_isNext_81 (by decide) ?_
                  exact r_iret G hyp (by decide) (Nat.zero_le _) (Nat.zero_le _) dX0_isNext_82
                · refine r_iconst (v := 1) G dX0_isNext_77 (by decide) ?_
                  refine r_goto G 82 dX0_isNext_78 (by decide) ?_
                  exact r_iret G hyp (by decide) (Nat.zero_le _) (Nat.zero_le _) dX0_isNext_82
        · refine r_iload_n G 0 dX0_isNext_48 rfl rfl ?_
          refine r_callSN (ι := xI) (rest := []) (As := [.int v14]) G hno tg_X6_isMode (fun r w' h => ct_X6_isMode (xhl G) _ _ r w' h) hyp ww_295 ww_124 (by decide) (by decide) rfl rfl (xroom (Nat.le_of_ble_eq_true rfl)) dX0_isNext_49 (push := (fun r24 => [.int r24])) (fun _ => rfl) (fun r24 w23 hyp => ?_)
          obtain ⟨h25, hyp⟩ := x_chk hyp
          exact r_iret G hyp (xnz h25).1 (Nat.zero_le _) (Nat.zero_le _) dX0_isNext_52
      · refine r_iconst (v := 0) G dX0_isNext_30 (by decide) ?_
        exact r_iret G hyp (by decide) (Nat.zero_le _) (Nat.zero_le _) dX0_isNext_31
theorem tg_X0_addNumber : xTgt yX0_addNumber cX0_addNumber 2 none 1 := ⟨ww_297, ww_12, by decide, by decide +kernel, by decide +kernel⟩
section
variable {Γ : xG} {p : Program} {l : Launch} {e : Env} {s : State} {m : MethodId} {args : Array Value} {below : List Frame} {meth : Method} {c : Code} {rF : Unit ⊕ String} {wF : xW}
end
set_option maxRecDepth 100000 in
set_option maxHeartbeats 4000000 in
theorem ct_X0_addNumber {Γ : xG} {l : Launch} (hl : l.stackTraces = false) (a0 : Nat) (x1 : Int32) (w0 : xW) (rF : Unit ⊕ String) (wF : xW) (hyp : f_X0_addNumber a0 x1 w0 = some (rF, wF)) : xMet Γ l yX0_addNumber (xws yX0_addNumber cX0_addNumber 2 none) 0 xV [.ref a0, .int x1] w0 rF wF (x_mc rF) (x_ms rF) := by
  refine xOfW tg_X0_addNumber hl (lv0 := [(0, .ref a0), (1, .int x1)]) (Nat.le_of_ble_eq_true rfl) rfl ?_
  intro p e s m below meth c G hno hin
  rw [f_X0_addNumber] at hyp
  refine r_aload_n G 0 dX0_addNumber_0 rfl rfl ?_
  obtain ⟨v1, hv1, hyp⟩ := x_some hyp
  refine r_getv (C := RX0) (T := TX0) (N := 6) (ci := 0) G 5 (x_geti_e hv1) rfl uw_0 (Nat.le_of_ble_eq_true rfl) rfl ww_10 dX0_addNumber_1 ?_
  refine r_if_lt G 39 dX0_addNumber_4 (by decide) hyp (fun c2 hyp => ?_) (fun c2 hyp => ?_)
  · exact r_vret G hyp (Nat.zero_le _) (Nat.zero_le _) dX0_addNumber_39
  · refine r_aload_n G 0 dX0_addNumber_7 rfl rfl ?_
    obtain ⟨v3, hv3, hyp⟩ := x_some hyp
    refine r_getv (C := RX0) (T := TX0) (N := 6) (ci := 0) G 5 (x_geti_e hv3) rfl uw_0 (Nat.le_of_ble_eq_true rfl) rfl ww_10 dX0_addNumber_8 ?_
    refine r_aload_n G 0 dX0_addNumber_11 rfl rfl ?_
    obtain ⟨v4, hv4, hyp⟩ := x_some hyp
    refine r_getv (C := RX0) (T := TX0) (N := 6) (ci := 0) G 4 (x_getr_e hv4) rfl uw_0 (Nat.le_of_ble_eq_true rfl) rfl ww_9 dX0_addNumber_12 ?_
    refine r_ref hyp (fun a5 ha5 hz => ?_)
    clear hyp; subst ha5; have hyp := hz; clear hz
    obtain ⟨v6, hv6, hyp⟩ := x_some hyp
    refine r_len G hv6 dX0_addNumber_15 ?_
    refine r_icmp_ge G 39 dX0_addNumber_16 (by decide) hyp (fun c7 hyp => ?_) (fun c7 hyp => ?_)
    · exact r_vret G hyp (Nat.zero_le _) (Nat.zero_le _) dX0_addNumber_39
    · refine r_aload_n G 0 dX0_addNumber_19 rfl rfl ?_
      obtain ⟨v8, hv8, hyp⟩ := x_some hyp
      refine r_getv (C := RX0) (T := TX0) (N := 6) (ci := 0) G 4 (x_getr_e hv8) rfl uw_0 (Nat.le_of_ble_eq_true rfl) rfl ww_9 dX0_addNumber_20 ?_
      refine r_aload_n G 0 dX0_addNumber_23 rfl rfl ?_
      obtain ⟨v9, hv9, hyp⟩ := x_some hyp
      refine r_getv (C := RX0) (T := TX0) (N := 6) (ci := 0) G 5 (x_geti_e hv9) rfl uw_0 (Nat.le_of_ble_eq_true rfl) rfl ww_10 dX0_addNumber_24 ?_
      refine r_iload_n G 1 dX0_addNumber_27 rfl rfl ?_
      refine r_ref hyp (fun a10 ha10 hz => ?_)
      clear hyp; subst ha10; have hyp := hz; clear hz
      obtain ⟨w11, hw11, hyp⟩ := x_some hyp
      refine r_iast G hw11 dX0_addNumber_28 ?_
      refine r_aload_n G 0 dX0_addNumber_29 rfl rfl ?_
      refine r_dup G dX0_addNumber_30 rfl ?_
      obtain ⟨v12, hv12, hyp⟩ := x_some hyp
      refine r_getv (C := RX0) (T := TX0) (N := 6) (ci := 0) G 5 (x_geti_e hv12) rfl uw_0 (Nat.le_of_ble_eq_true rfl) rfl ww_10 dX0_addNumber_31 ?_
      refine r_iconst (v := 1) G dX0_addNumber_34 (by decide) ?_
      refine r_iadd G dX0_addNumber_35 ?_
      obtain ⟨w13, hw13, hyp⟩ := x_some hyp
      refine r_putv (C := RX0) (T := TX0) (N := 6) (ci := 0) G tyX0 tyX0_ok nmX0 5 hw13 rfl uw_0 (Nat.le_of_ble_eq_true rfl) rfl ww_10 rfl rfl rfl dX0_addNumber_36 ?_
      exact r_vret G hyp (Nat.zero_le _) (Nat.zero_le _) dX0_addNumber_39
theorem tg_X0_take : xTgt yX0_take cX0_take 3 none 1 := ⟨ww_302, ww_12, by decide, by decide +kernel, by decide +kernel⟩
section
variable {Γ : xG} {p : Program} {l : Launch} {e : Env} {s : State} {m : MethodId} {args : Array Value} {below : List Frame} {meth : Method} {c : Code} {rF : Unit ⊕ String} {wF : xW}
end
set_option maxRecDepth 100000 in
set_option maxHeartbeats 4000000 in
theorem ct_X0_take {Γ : xG} {l : Launch} (hl : l.stackTraces = false) (a0 : Nat) (x1 : Int32) (w0 : xW) (rF : Unit ⊕ String) (wF : xW) (hyp : f_X0_take a0 x1 w0 = some (rF, wF)) : xMet Γ l yX0_take (xws yX0_take cX0_take 3 none) 1 xV [.ref a0, .int x1] w0 rF wF (x_mc rF) (x_ms rF) := by
  refine xOfW tg_X0_take hl (lv0 := [(0, .ref a0), (1, .int x1)]) (Nat.le_of_ble_eq_true rfl) rfl ?_
  intro p e s m below meth c G hno hin
  rw [f_X0_take] at hyp
  refine r_aload_n G 0 dX0_take_0 rfl rfl ?_
  obtain ⟨v1, hv1, hyp⟩ := x_some hyp
  refine r_getv (C := RX0) (T := TX0) (N := 6) (ci := 0) G 2 (x_geti_e hv1) rfl uw_0 (Nat.le_of_ble_eq_true rfl) rfl ww_6 dX0_take_1 ?_
  refine r_if_lt G 19 dX0_take_4 (by decide) hyp (fun c2 hyp => ?_) (fun c2 hyp => ?_)
  · exact r_vret G hyp (Nat.zero_le _) (Nat.zero_le _) dX0_take_19
  · refine r_aload_n G 0 dX0_take_7 rfl rfl ?_
    obtain ⟨v3, hv3, hyp⟩ := x_some hyp
    refine r_getv (C := RX0) (T := TX0) (N := 6) (ci := 0) G 2 (x_geti_e hv3) rfl uw_0 (Nat.le_of_ble_eq_true rfl) rfl ww_6 dX0_take_8 ?_
    refine r_aload_n G 0 dX0_take_11 rfl rfl ?_
    obtain ⟨v4, hv4, hyp⟩ := x_some hyp
    refine r_getv (C := RX0) (T := TX0) (N := 6) (ci := 0) G 0 (x_getr_e hv4) rfl uw_0 (Nat.le_of_ble_eq_true rfl) rfl ww_4 dX0_take_12 ?_
    refine r_ref hyp (fun a5 ha5 hz => ?_)
    clear hyp; subst ha5; have hyp := hz; clear hz
    obtain ⟨v6, hv6, hyp⟩ := x_some hyp
    refine r_len G hv6 dX0_take_15 ?_
    refine r_icmp_lt G 20 dX0_take_16 (by decide) hyp (fun c7 hyp => ?_) (fun c7 hyp => ?_)
    · refine r_aload_n G 0 dX0_take_20 rfl rfl ?_
      obtain ⟨v8, hv8, hyp⟩ := x_some hyp
      refine r_getv (C := RX0) (T := TX0) (N := 6) (ci := 0) G 0 (x_getr_e hv8) rfl uw_0 (Nat.le_of_ble_eq_true rfl) rfl ww_4 dX0_take_21 ?_
      refine r_aload_n G 0 dX0_take_24 rfl rfl ?_
      obtain ⟨v9, hv9, hyp⟩ := x_some hyp
      refine r_getv (C := RX0) (T := TX0) (N := 6) (ci := 0) G 2 (x_geti_e hv9) rfl uw_0 (Nat.le_of_ble_eq_true rfl) rfl ww_6 dX0_take_25 ?_
      refine r_ref hyp (fun a10 ha10 hz => ?_)
      clear hyp; subst ha10; have hyp := hz; clear hz
      obtain ⟨v11, hv11, hyp⟩ := x_some hyp
      refine r_cald G hv11 dX0_take_28 ?_
      refine r_istore_n (lv' := [(2, .int v11), (0, .ref a0), (1, .int x1)]) G dX0_take_29 rfl (by decide) ⟨fun _ => rfl, fun _ => rfl, trivial⟩ rfl ?_
      refine r_aload_n G 1 dX0_take_30 rfl rfl ?_
      refine r_dup G dX0_take_31 rfl ?_
      obtain ⟨v12, hv12, hyp⟩ := x_some hyp
      refine r_getv (C := RX0) (T := TX0) (N := 6) (ci := 0) G 2 (x_geti_e hv12) rfl uw_0 (Nat.le_of_ble_eq_true rfl) rfl ww_6 dX0_take_32 ?_
      refine r_iconst (v := 1) G dX0_take_35 (by decide) ?_
      refine r_iadd G dX0_take_36 ?_
      obtain ⟨w13, hw13, hyp⟩ := x_some hyp
      refine r_putv (C := RX0) (T := TX0) (N := 6) (ci := 0) G tyX0 tyX0_ok nmX0 2 hw13 rfl uw_0 (Nat.le_of_ble_eq_true rfl) rfl ww_6 rfl rfl rfl dX0_take_37 ?_
      refine r_iload_n G 2 dX0_take_40 rfl rfl ?_
      refine r_bipush (v := 42) G dX0_take_41 (by decide) ?_
      refine r_icmp_ne G 54 dX0_take_43 (by decide) hyp (fun c14 hyp => ?_) (fun c14 hyp => ?_)
      · refine r_iload_n G 2 dX0_take_54 rfl rfl ?_
        refine r_bipush (v := 35) G dX0_take_55 (by decide) ?_
        refine r_icmp_ne G 71 dX0_take_57 (by decide) hyp (fun c15 hyp => ?_) (fun c15 hyp => ?_)
        · refine r_iload_n G 2 dX0_take_71 rfl rfl ?_
          refine r_bipush (v := 43) G dX0_take_72 (by decide) ?_
          refine r_icmp_ne G 107 dX0_take_74 (by decide) hyp (fun c16 hyp => ?_) (fun c16 hyp => ?_)
          · exact r_vret G hyp (Nat.zero_le _) (Nat.zero_le _) dX0_take_107
          · refine r_aload_n G 1 dX0_take_77 rfl rfl ?_
            refine r_dup G dX0_take_78 rfl ?_
            obtain ⟨v17, hv17, hyp⟩ := x_some hyp
            refine r_getv (C := RX0) (T := TX0) (N := 6) (ci := 0) G 5 (x_geti_e hv17) rfl uw_0 (Nat.le_of_ble_eq_true rfl) rfl ww_10 dX0_take_79 ?_
            refine r_iconst (v := 1) G dX0_take_82 (by decide) ?_
            refine r_isub G dX0_take_83 ?_
            obtain ⟨w18, hw18, hyp⟩ := x_some hyp
            refine r_putv (C := RX0) (T := TX0) (N := 6) (ci := 0) G tyX0 tyX0_ok nmX0 5 hw18 rfl uw_0 (Nat.le_of_ble_eq_true rfl) rfl ww_10 rfl rfl rfl dX0_take_84 ?_
            refine r_aload_n G 1 dX0_take_87 rfl rfl ?_
            refine r_aload_n G 1 dX0_take_88 rfl rfl ?_
            refine r_aload_n G 1 dX0_take_89 rfl rfl ?_
            obtain ⟨v19, hv19, hyp⟩ := x_some hyp
            refine r_getv (C := RX0) (T := TX0) (N := 6) (ci := 0) G 5 (x_geti_e hv19) rfl uw_0 (Nat.le_of_ble_eq_true rfl) rfl ww_10 dX0_take_90 ?_
            obtain ⟨o22, hyp⟩ := x_chk hyp
            refine r_callV (ι := xI) (T := TX0) (N := 6) (ci := 0) (b := a0) (rest := [.ref a0]) (As := [.int v19]) G hno tg_X0_number (fun r w' h => ct_X0_number (xhl G) _ _ _ r w' h) o22 hyp rfl ww_298 ww_273 ww_272 (by decide) (by decide) rfl rfl (xroom (Nat.le_of_ble_eq_true rfl)) dX0_take_93 (push := (fun r21 => [.int r21, .ref a0])) (fun _ => rfl) (fun r21 w20 hyp => ?_)
            refine r_bipush (v := 10) G dX0_take_96 (by decide) ?_
            refine r_imul G dX0_take_98 ?_
            refine r_iload_n G 0 dX0_take_99 rfl rfl ?_
            refine r_iadd G dX0_take_100 ?_
            refine r_bipush (v := 48) G dX0_take_101 (by decide) ?_
            refine r_isub G dX0_take_103 ?_
            obtain ⟨o25, hyp⟩ := x_chk hyp
            refine r_callV (ι := xV) (T := TX0) (N := 6) (ci := 0) (b := a0) (rest := []) (As := [.int (((r21 * 10) + v11) - 48)]) G hno tg_X0_addNumber (fun r w' h => ct_X0_addNumber (xhl G) _ _ _ r w' h) o25 hyp rfl ww_299 ww_301 ww_300 (by decide) (by decide) rfl rfl (xroom (Nat.le_of_ble_eq_true rfl)) dX0_take_104 (push := (fun _ => [])) (fun _ => rfl) (fun _ w23 hyp => ?_)
            exact r_vret G hyp (Nat.zero_le _) (Nat.zero_le _) dX0_take_107
        · refine r_aload_n G 1 dX0_take_60 rfl rfl ?_
          refine r_iload_n G 0 dX0_take_61 rfl rfl ?_
          refine r_bipush (v := 48) G dX0_take_62 (by decide) ?_
          refine r_isub G dX0_take_64 ?_
          obtain ⟨o28, hyp⟩ := x_chk hyp
          refine r_callV (ι := xV) (T := TX0) (N := 6) (ci := 0) (b := a0) (rest := []) (As := [.int (v11 - 48)]) G hno tg_X0_addNumber (fun r w' h => ct_X0_addNumber (xhl G) _ _ _ r w' h) o28 hyp rfl ww_299 ww_301 ww_300 (by decide) (by decide) rfl rfl (xroom (Nat.le_of_ble_eq_true rfl)) dX0_take_65 (push := (fun _ => [])) (fun _ => rfl) (fun _ w26 hyp => ?_)
          refine r_goto G 107 dX0_take_68 (by decide) ?_
          exact r_vret G hyp (Nat.zero_le _) (Nat.zero_le _) dX0_take_107
      · refine r_aload_n G 1 dX0_take_46 rfl rfl ?_
        refine r_iload_n G 0 dX0_take_47 rfl rfl ?_
        obtain ⟨o31, hyp⟩ := x_chk hyp
        refine r_callV (ι := xV) (T := TX0) (N := 6) (ci := 0) (b := a0) (rest := []) (As := [.int v11]) G hno tg_X0_addNumber (fun r w' h => ct_X0_addNumber (xhl G) _ _ _ r w' h) o31 hyp rfl ww_299 ww_301 ww_300 (by decide) (by decide) rfl rfl (xroom (Nat.le_of_ble_eq_true rfl)) dX0_take_48 (push := (fun _ => [])) (fun _ => rfl) (fun _ w29 hyp => ?_)
        refine r_goto G 107 dX0_take_51 (by decide) ?_
        exact r_vret G hyp (Nat.zero_le _) (Nat.zero_le _) dX0_take_107
    · exact r_vret G hyp (Nat.zero_le _) (Nat.zero_le _) dX0_take_19
theorem tg_X0_readForm : xTgt yX0_readForm cX0_readForm 4 (some .boolean) 1 := ⟨ww_315, ww_12, by decide, by decide +kernel, by decide +kernel⟩
section
variable {Γ : xG} {p : Program} {l : Launch} {e : Env} {s : State} {m : MethodId} {args : Array Value} {below : List Frame} {meth : Method} {c : Code} {rF : Int32 ⊕ String} {wF : xW}
set_option maxRecDepth 100000 in
set_option maxHeartbeats 4000000 in
theorem nd_X0_readForm_L7 (G : xCx Γ p l s m args meth c RX0 cX0_readForm 4 (some .boolean)) (hno : ∀ x ∈ c.exceptionTable.toList, False) : ∀ (n : Nat) (a0 : Nat) (x1 : Nat) (x2 : Int32) (w0 : xW), f_X0_readForm_L7 n a0 x1 x2 w0 = some (rF, wF) → xAW Γ p l e (xRm 4 (x_mc rF) (x_ms rF)) s m args below meth c 4 (xQm Γ below xI rF wF args s (x_mc rF) (x_ms rF)) w0 0 0 7 [(0, .ref a0), (1, .ref (Γ.2.2.2.1 x1)), (2, .int x2)] [] := by
  intro n
  induction n with
  | zero =>
    intro a0 x1 x2 w0 hyp
    cases (show (none : xO Int32) = some (rF, wF) from hyp)
  | succ n ih =>
    intro a0 x1 x2 w0 hyp
    rw [f_X0_readForm_L7] at hyp
    refine r_iload_n G 2 dX0_readForm_7 rfl rfl ?_
    refine r_aload_n G 1 dX0_readForm_8 rfl rfl ?_
    obtain ⟨o4, hyp⟩ := x_chk hyp
    refine r_callStr (ι := xI) (i := x1) (rest := [.int x2]) (As := []) G hno o4 rfl tg_J0_length_8abf5 (fun r w' h => ct_J0_length_8abf5 (xhl G) _ _ r w' h) hyp ww_303 ww_304 ww_305 (by decide) (by decide) rfl rfl (xroom (Nat.le_of_ble_eq_true rfl)) dX0_readForm_9 (push := (fun r3 => [.int r3, .int x2])) (fun _ => rfl) (fun r3 w2 hyp => ?_)
    refine r_icmp_ge G 51 dX0_readForm_12 (by decide) hyp (fun c5 hyp => ?_) (fun c5 hyp => ?_)
    · refine r_iconst (v := 1) G dX0_readForm_51 (by decide) ?_
      exact r_iret G hyp (by decide) (Nat.zero_le _) (Nat.zero_le _) dX0_readForm_52
    · refine r_aload_n G 1 dX0_readForm_15 rfl rfl ?_
      refine r_iload_n G 2 dX0_readForm_16 rfl rfl ?_
      obtain ⟨o8, hyp⟩ := x_chk hyp
      refine r_callStr (ι := xI) (i := x1) (rest := []) (As := [.int x2]) G hno o8 rfl tg_J0_charAt_5068e (fun r w' h => ct_J0_charAt_5068e (xhl G) _ _ _ r w' h) hyp ww_306 ww_307 ww_308 (by decide) (by decide) rfl rfl (xroom (Nat.le_of_ble_eq_true rfl)) dX0_readForm_17 (push := (fun r7 => [.int r7])) (fun _ => rfl) (fun r7 w6 hyp => ?_)
      refine r_istore_n (lv' := [(3, .int r7), (0, .ref a0), (1, .ref (Γ.2.2.2.1 x1)), (2, .int x2)]) G dX0_readForm_20 rfl (by decide) ⟨fun _ => rfl, fun _ => rfl, fun _ => rfl, trivial⟩ rfl ?_
      refine r_aload_n G 1 dX0_readForm_21 rfl rfl ?_
      refine r_iload_n G 0 dX0_readForm_22 rfl rfl ?_
      obtain ⟨o11, hyp⟩ := x_chk hyp
      refine r_callV (ι := xI) (T := TX0) (N := 6) (ci := 0) (b := a0) (rest := []) (As := [.int r7]) G hno tg_X0_isNext (fun r w' h => ct_X0_isNext (xhl G) _ _ _ r w' h) o11 hyp rfl ww_309 ww_311 ww_310 (by decide) (by decide) rfl rfl (xroom (Nat.le_of_ble_eq_true rfl)) dX0_readForm_23 (push := (fun r10 => [.int r10])) (fun _ => rfl) (fun r10 w9 hyp => ?_)
      refine r_if_eq G 37 dX0_readForm_26 (by decide) hyp (fun c12 hyp => ?_) (fun c12 hyp => ?_)
      · refine r_iload_n G 0 dX0_readForm_37 rfl rfl ?_
        refine r_bipush (v := 43) G dX0_readForm_38 (by decide) ?_
        refine r_icmp_eq G 45 dX0_readForm_40 (by decide) hyp (fun c13 hyp => ?_) (fun c13 hyp => ?_)
        · refine r_iinc (v := (x2 + 1)) (lv' := [(2, .int (x2 + 1)), (3, .int r7), (0, .ref a0), (1, .ref (Γ.2.2.2.1 x1))]) G 3 dX0_readForm_45 rfl rfl (by decide) ⟨fun _ => rfl, fun _ => rfl, fun _ => rfl, fun _ => rfl, trivial⟩ rfl ?_
          refine r_goto G 7 dX0_readForm_48 (by decide) ?_
          refine r_weak (lv' := [(0, .ref a0), (1, .ref (Γ.2.2.2.1 x1)), (2, .int (x2 + 1))]) [2, 3, 0] rfl ?_
          exact ih a0 x1 (x2 + 1) w9 hyp
        · refine r_iconst (v := 0) G dX0_readForm_43 (by decide) ?_
          exact r_iret G hyp (by decide) (Nat.zero_le _) (Nat.zero_le _) dX0_readForm_44
      · refine r_aload_n G 1 dX0_readForm_29 rfl rfl ?_
        refine r_iload_n G 0 dX0_readForm_30 rfl rfl ?_
        obtain ⟨o16, hyp⟩ := x_chk hyp
        refine r_callV (ι := xV) (T := TX0) (N := 6) (ci := 0) (b := a0) (rest := []) (As := [.int r7]) G hno tg_X0_take (fun r w' h => ct_X0_take (xhl G) _ _ _ r w' h) o16 hyp rfl ww_312 ww_314 ww_313 (by decide) (by decide) rfl rfl (xroom (Nat.le_of_ble_eq_true rfl)) dX0_readForm_31 (push := (fun _ => [])) (fun _ => rfl) (fun _ w14 hyp => ?_)
        refine r_goto G 45 dX0_readForm_34 (by decide) ?_
        refine r_iinc (v := (x2 + 1)) (lv' := [(2, .int (x2 + 1)), (3, .int r7), (0, .ref a0), (1, .ref (Γ.2.2.2.1 x1))]) G 3 dX0_readForm_45 rfl rfl (by decide) ⟨fun _ => rfl, fun _ => rfl, fun _ => rfl, fun _ => rfl, trivial⟩ rfl ?_
        refine r_goto G 7 dX0_readForm_48 (by decide) ?_
        refine r_weak (lv' := [(0, .ref a0), (1, .ref (Γ.2.2.2.1 x1)), (2, .int (x2 + 1))]) [2, 3, 0] rfl ?_
        exact ih a0 x1 (x2 + 1) w14 hyp
end
set_option maxRecDepth 100000 in
set_option maxHeartbeats 4000000 in
theorem ct_X0_readForm {Γ : xG} {l : Launch} (hl : l.stackTraces = false) (a0 : Nat) (x1 : Nat) (w0 : xW) (rF : Int32 ⊕ String) (wF : xW) (hyp : f_X0_readForm a0 x1 w0 = some (rF, wF)) : xMet Γ l yX0_readForm (xws yX0_readForm cX0_readForm 4 (some .boolean)) 4 xI [.ref a0, .ref (Γ.2.2.2.1 x1)] w0 rF wF (x_mc rF) (x_ms rF) := by
  refine xOfW tg_X0_readForm hl (lv0 := [(0, .ref a0), (1, .ref (Γ.2.2.2.1 x1))]) (Nat.le_of_ble_eq_true rfl) rfl ?_
  intro p e s m below meth c G hno hin
  rw [f_X0_readForm] at hyp
  refine r_aload_n G 0 dX0_readForm_0 rfl rfl ?_
  refine r_iconst (v := 0) G dX0_readForm_1 (by decide) ?_
  obtain ⟨w1, hw1, hyp⟩ := x_some hyp
  refine r_putv (C := RX0) (T := TX0) (N := 6) (ci := 0) G tyX0 tyX0_ok nmX0 5 hw1 rfl uw_0 (Nat.le_of_ble_eq_true rfl) rfl ww_10 rfl rfl rfl dX0_readForm_2 ?_
  refine r_iconst (v := 0) G dX0_readForm_5 (by decide) ?_
  refine r_istore_n (lv' := [(2, .int 0), (0, .ref a0), (1, .ref (Γ.2.2.2.1 x1))]) G dX0_readForm_6 rfl (by decide) ⟨fun _ => rfl, fun _ => rfl, trivial⟩ rfl ?_
  refine r_weak (lv' := [(0, .ref a0), (1, .ref (Γ.2.2.2.1 x1)), (2, .int 0)]) [1, 2, 0] rfl ?_
  exact nd_X0_readForm_L7 G hno xfuel a0 x1 0 w1 hyp
theorem tg_J9_max_7cf53 : xTgt yJ9_max_7cf53 cJ9_max_7cf53 2 (some .int) 2 := ⟨ww_316, ww_88, by decide, by decide +kernel, by decide +kernel⟩
section
variable {Γ : xG} {p : Program} {l : Launch} {e : Env} {s : State} {m : MethodId} {args : Array Value} {below : List Frame} {meth : Method} {c : Code} {rF : Int32 ⊕ String} {wF : xW}
end
set_option maxRecDepth 100000 in
set_option maxHeartbeats 4000000 in
theorem ct_J9_max_7cf53 {Γ : xG} {l : Launch} (hl : l.stackTraces = false) (x0 : Int32) (x1 : Int32) (w0 : xW) (rF : Int32 ⊕ String) (wF : xW) (hyp : f_J9_max_7cf53 x0 x1 w0 = some (rF, wF)) : xMet Γ l yJ9_max_7cf53 (xws yJ9_max_7cf53 cJ9_max_7cf53 2 (some .int)) 0 xI [.int x0, .int x1] w0 rF wF (x_mc rF) (x_ms rF) := by
  refine xOfW tg_J9_max_7cf53 hl (lv0 := [(0, .int x0), (1, .int x1)]) (Nat.le_of_ble_eq_true rfl) rfl ?_
  intro p e s m below meth c G hno hin
  rw [f_J9_max_7cf53] at hyp
  refine r_iload_n G 0 dJ9_max_7cf53_0 rfl rfl ?_
  refine r_iload_n G 1 dJ9_max_7cf53_1 rfl rfl ?_
  refine r_icmp_lt G 9 dJ9_max_7cf53_2 (by decide) hyp (fun c1 hyp => ?_) (fun c1 hyp => ?_)
  · refine r_iload_n G 1 dJ9_max_7cf53_9 rfl rfl ?_
    exact r_iret G hyp rfl (Nat.zero_le _) (Nat.zero_le _) dJ9_max_7cf53_10
  · refine r_iload_n G 0 dJ9_max_7cf53_5 rfl rfl ?_
    refine r_goto G 10 dJ9_max_7cf53_6 (by decide) ?_
    exact r_iret G hyp rfl (Nat.zero_le _) (Nat.zero_le _) dJ9_max_7cf53_10
theorem tg_X0_readCommand : xTgt yX0_readCommand cX0_readCommand 4 (some .boolean) 0 := ⟨ww_324, ww_12, by decide, by decide +kernel, by decide +kernel⟩
section
variable {Γ : xG} {p : Program} {l : Launch} {e : Env} {s : State} {m : MethodId} {args : Array Value} {below : List Frame} {meth : Method} {c : Code} {rF : Int32 ⊕ String} {wF : xW}
set_option maxRecDepth 100000 in
set_option maxHeartbeats 4000000 in
theorem nd_X0_readCommand_L9 (G : xCx Γ p l s m args meth c RX0 cX0_readCommand 4 (some .boolean)) (hno : ∀ x ∈ c.exceptionTable.toList, False) : ∀ (n : Nat) (a0 : Nat) (x1 : Int32) (x2 : Int32) (x3 : Int32) (w0 : xW), f_X0_readCommand_L9 n a0 x1 x2 x3 w0 = some (rF, wF) → xAW Γ p l e (xRm 5 (x_mc rF) (x_ms rF)) s m args below meth c 4 (xQm Γ below xI rF wF args s (x_mc rF) (x_ms rF)) w0 0 0 9 [(0, .ref a0), (1, .int x1), (2, .int x2), (3, .int x3)] [] := by
  intro n
  induction n with
  | zero =>
    intro a0 x1 x2 x3 w0 hyp
    cases (show (none : xO Int32) = some (rF, wF) from hyp)
  | succ n ih =>
    intro a0 x1 x2 x3 w0 hyp
    rw [f_X0_readCommand_L9] at hyp
    refine r_iload_n G 3 dX0_readCommand_9 rfl rfl ?_
    refine r_bipush (v := 8) G dX0_readCommand_10 (by decide) ?_
    refine r_icmp_ge G 53 dX0_readCommand_12 (by decide) hyp (fun c2 hyp => ?_) (fun c2 hyp => ?_)
    · refine r_aload_n G 0 dX0_readCommand_53 rfl rfl ?_
      refine r_iload_n G 2 dX0_readCommand_54 rfl rfl ?_
      obtain ⟨w3, hw3, hyp⟩ := x_some hyp
      refine r_putv (C := RX0) (T := TX0) (N := 6) (ci := 0) G tyX0 tyX0_ok nmX0 2 hw3 rfl uw_0 (Nat.le_of_ble_eq_true rfl) rfl ww_6 rfl rfl rfl dX0_readCommand_55 ?_
      refine r_iconst (v := 0) G dX0_readCommand_58 (by decide) ?_
      exact r_iret G hyp (by decide) (Nat.zero_le _) (Nat.zero_le _) dX0_readCommand_59
    · refine r_aload_n G 0 dX0_readCommand_15 rfl rfl ?_
      refine r_iload_n G 1 dX0_readCommand_16 rfl rfl ?_
      obtain ⟨w4, hw4, hyp⟩ := x_some hyp
      refine r_putv (C := RX0) (T := TX0) (N := 6) (ci := 0) G tyX0 tyX0_ok nmX0 2 hw4 rfl uw_0 (Nat.le_of_ble_eq_true rfl) rfl ww_6 rfl rfl rfl dX0_readCommand_17 ?_
      refine r_aload_n G 0 dX0_readCommand_20 rfl rfl ?_
      refine r_iload_n G 3 dX0_readCommand_21 rfl rfl ?_
      obtain ⟨w5, hw5, hyp⟩ := x_some hyp
      refine r_putv (C := RX0) (T := TX0) (N := 6) (ci := 0) G tyX0 tyX0_ok nmX0 3 hw5 rfl uw_0 (Nat.le_of_ble_eq_true rfl) rfl ww_7 rfl rfl rfl dX0_readCommand_22 ?_
      refine r_aload_n G 0 dX0_readCommand_25 rfl rfl ?_
      refine r_iload_n G 3 dX0_readCommand_26 rfl rfl ?_
      refine r_callS (ι := (xS Γ)) (rest := [.ref a0]) (As := [.int x3]) G hno tg_X0_formOf (fun r w' h => ct_X0_formOf (xhl G) _ _ r w' h) hyp ww_317 ww_318 (by decide) (by decide) rfl rfl (xroom (Nat.le_of_ble_eq_true rfl)) dX0_readCommand_27 (push := (fun r7 => [.ref (Γ.2.2.2.1 r7), .ref a0])) (fun _ => rfl) (fun r7 w6 hyp => ?_)
      obtain ⟨o10, hyp⟩ := x_chk hyp
      refine r_callV (ι := xI) (T := TX0) (N := 6) (ci := 0) (b := a0) (rest := []) (As := [.ref (Γ.2.2.2.1 r7)]) G hno tg_X0_readForm (fun r w' h => ct_X0_readForm (xhl G) _ _ _ r w' h) o10 hyp rfl ww_319 ww_321 ww_320 (by decide) (by decide) rfl rfl (xroom (Nat.le_of_ble_eq_true rfl)) dX0_readCommand_30 (push := (fun r9 => [.int r9])) (fun _ => rfl) (fun r9 w8 hyp => ?_)
      refine r_if_eq G 38 dX0_readCommand_33 (by decide) hyp (fun c11 hyp => ?_) (fun c11 hyp => ?_)
      · refine r_iload_n G 2 dX0_readCommand_38 rfl rfl ?_
        refine r_aload_n G 0 dX0_readCommand_39 rfl rfl ?_
        obtain ⟨v12, hv12, hyp⟩ := x_some hyp
        refine r_getv (C := RX0) (T := TX0) (N := 6) (ci := 0) G 2 (x_geti_e hv12) rfl uw_0 (Nat.le_of_ble_eq_true rfl) rfl ww_6 dX0_readCommand_40 ?_
        refine r_callS (ι := xI) (rest := []) (As := [.int x2, .int v12]) G hno tg_J9_max_7cf53 (fun r w' h => ct_J9_max_7cf53 (xhl G) _ _ _ r w' h) hyp ww_322 ww_323 (by decide) (by decide) rfl rfl (xroom (Nat.le_of_ble_eq_true rfl)) dX0_readCommand_43 (push := (fun r14 => [.int r14])) (fun _ => rfl) (fun r14 w13 hyp => ?_)
        refine r_istore_n (lv' := [(2, .int r14), (0, .ref a0), (1, .int x1), (3, .int x3)]) G dX0_readCommand_46 rfl (by decide) ⟨fun _ => rfl, fun _ => rfl, fun _ => rfl, fun _ => rfl, trivial⟩ rfl ?_
        refine r_iinc (v := (x3 + 1)) (lv' := [(3, .int (x3 + 1)), (2, .int r14), (0, .ref a0), (1, .int x1)]) G 3 dX0_readCommand_47 rfl rfl (by decide) ⟨fun _ => rfl, fun _ => rfl, fun _ => rfl, fun _ => rfl, trivial⟩ rfl ?_
        refine r_goto G 9 dX0_readCommand_50 (by decide) ?_
        refine r_weak (lv' := [(0, .ref a0), (1, .int x1), (2, .int r14), (3, .int (x3 + 1))]) [2, 3, 1, 0] rfl ?_
        exact ih a0 x1 r14 (x3 + 1) w13 hyp
      · refine r_iconst (v := 1) G dX0_readCommand_36 (by decide) ?_
        exact r_iret G hyp (by decide) (Nat.zero_le _) (Nat.zero_le _) dX0_readCommand_37
end
set_option maxRecDepth 100000 in
set_option maxHeartbeats 4000000 in
theorem ct_X0_readCommand {Γ : xG} {l : Launch} (hl : l.stackTraces = false) (a0 : Nat) (w0 : xW) (rF : Int32 ⊕ String) (wF : xW) (hyp : f_X0_readCommand a0 w0 = some (rF, wF)) : xMet Γ l yX0_readCommand (xws yX0_readCommand cX0_readCommand 4 (some .boolean)) 5 xI [.ref a0] w0 rF wF (x_mc rF) (x_ms rF) := by
  refine xOfW tg_X0_readCommand hl (lv0 := [(0, .ref a0)]) (Nat.le_of_ble_eq_true rfl) rfl ?_
  intro p e s m below meth c G hno hin
  rw [f_X0_readCommand] at hyp
  refine r_aload_n G 0 dX0_readCommand_0 rfl rfl ?_
  obtain ⟨v1, hv1, hyp⟩ := x_some hyp
  refine r_getv (C := RX0) (T := TX0) (N := 6) (ci := 0) G 2 (x_geti_e hv1) rfl uw_0 (Nat.le_of_ble_eq_true rfl) rfl ww_6 dX0_readCommand_1 ?_
  refine r_istore_n (lv' := [(1, .int v1), (0, .ref a0)]) G dX0_readCommand_4 rfl (by decide) ⟨fun _ => rfl, trivial⟩ rfl ?_
  refine r_iload_n G 0 dX0_readCommand_5 rfl rfl ?_
  refine r_istore_n (lv' := [(2, .int v1), (1, .int v1), (0, .ref a0)]) G dX0_readCommand_6 rfl (by decide) ⟨fun _ => rfl, fun _ => rfl, trivial⟩ rfl ?_
  refine r_iconst (v := 0) G dX0_readCommand_7 (by decide) ?_
  refine r_istore_n (lv' := [(3, .int 0), (2, .int v1), (1, .int v1), (0, .ref a0)]) G dX0_readCommand_8 rfl (by decide) ⟨fun _ => rfl, fun _ => rfl, fun _ => rfl, trivial⟩ rfl ?_
  refine r_weak (lv' := [(0, .ref a0), (1, .int v1), (2, .int v1), (3, .int 0)]) [3, 2, 1, 0] rfl ?_
  exact nd_X0_readCommand_L9 G hno xfuel a0 v1 v1 0 w0 hyp
