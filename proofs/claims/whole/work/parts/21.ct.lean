theorem tg_X7_topLayer : xTgt yX7_topLayer cX7_topLayer 3 (some .int) 2 := ⟨ww_797, ww_574, by decide, by decide +kernel, by decide +kernel⟩
section
variable {Γ : xG} {p : Program} {l : Launch} {e : Env} {s : State} {m : MethodId} {args : Array Value} {below : List Frame} {meth : Method} {c : Code} {rF : Int32 ⊕ String} {wF : xW}
end
set_option maxRecDepth 100000 in
set_option maxHeartbeats 4000000 in
theorem ct_X7_topLayer {Γ : xG} {l : Launch} (hl : l.stackTraces = false) (a0 : Nat) (x1 : Int32) (x2 : Int32) (w0 : xW) (rF : Int32 ⊕ String) (wF : xW) (hyp : f_X7_topLayer a0 x1 x2 w0 = some (rF, wF)) : xMet Γ l yX7_topLayer (xws yX7_topLayer cX7_topLayer 3 (some .int)) 2 xI [.ref a0, .int x1, .int x2] w0 rF wF (x_mc rF) (x_ms rF) := by
  refine xOfW tg_X7_topLayer hl (lv0 := [(0, .ref a0), (1, .int x1), (2, .int x2)]) (Nat.le_of_ble_eq_true rfl) rfl ?_
  intro p e s m below meth c G hno hin
  rw [f_X7_topLayer] at hyp
  refine r_aload_n G 0 dX7_topLayer_0 rfl rfl ?_
  refine r_iload_n G 1 dX7_topLayer_1 rfl rfl ?_
  refine r_iload_n G 2 dX7_topLayer_2 rfl rfl ?_
  refine r_callS (ι := xI) (rest := [.ref a0]) (As := [.int x1, .int x2]) G hno tg_X7_isCell (fun r w' h => ct_X7_isCell (xhl G) _ _ _ r w' h) hyp ww_651 ww_652 (by decide) (by decide) rfl rfl (xroom (Nat.le_of_ble_eq_true rfl)) dX7_topLayer_3 (push := (fun r2 => [.int r2, .ref a0])) (fun _ => rfl) (fun r2 w1 hyp => ?_)
  refine r_if_ne G 13 dX7_topLayer_6 (by decide) hyp (fun c3 hyp => ?_) (fun c3 hyp => ?_)
  · refine r_aload_n G 0 dX7_topLayer_13 rfl rfl ?_
    refine r_bipush (v := 8) G dX7_topLayer_14 (by decide) ?_
    refine r_iload_n G 2 dX7_topLayer_16 rfl rfl ?_
    refine r_imul G dX7_topLayer_17 ?_
    refine r_iload_n G 1 dX7_topLayer_18 rfl rfl ?_
    refine r_iadd G dX7_topLayer_19 ?_
    obtain ⟨o6, hyp⟩ := x_chk hyp
    refine r_callV (ι := xI) (T := TX7) (N := 22) (ci := 7) (b := a0) (rest := [.ref a0]) (As := [.int ((8 * x2) + x1)]) G hno tg_X7_top (fun r w' h => ct_X7_top (xhl G) _ _ _ r w' h) o6 hyp rfl ww_697 ww_699 ww_698 (by decide) (by decide) rfl rfl (xroom (Nat.le_of_ble_eq_true rfl)) dX7_topLayer_20 (push := (fun r5 => [.int r5, .ref a0])) (fun _ => rfl) (fun r5 w4 hyp => ?_)
    refine r_iconst (v := (-1)) G dX7_topLayer_23 (by decide) ?_
    refine r_icmp_ne G 31 dX7_topLayer_24 (by decide) hyp (fun c7 hyp => ?_) (fun c7 hyp => ?_)
    · refine r_iconst (v := 0) G dX7_topLayer_31 (by decide) ?_
      obtain ⟨w8, hw8, hyp⟩ := x_some hyp
      refine r_putv (C := RX7) (T := TX7) (N := 22) (ci := 7) G tyX7 tyX7_ok nmX7 0 hw8 rfl uw_7 (Nat.le_of_ble_eq_true rfl) rfl ww_594 rfl rfl rfl dX7_topLayer_32 ?_
      refine r_aload_n G 0 dX7_topLayer_35 rfl rfl ?_
      obtain ⟨v9, hv9, hyp⟩ := x_some hyp
      refine r_getv (C := RX7) (T := TX7) (N := 22) (ci := 7) G 0 (x_geti_e hv9) rfl uw_7 (Nat.le_of_ble_eq_true rfl) rfl ww_594 dX7_topLayer_36 ?_
      refine r_if_le G 46 dX7_topLayer_39 (by decide) hyp (fun c10 hyp => ?_) (fun c10 hyp => ?_)
      · refine r_aload_n G 0 dX7_topLayer_46 rfl rfl ?_
        refine r_bipush (v := 8) G dX7_topLayer_47 (by decide) ?_
        refine r_iload_n G 2 dX7_topLayer_49 rfl rfl ?_
        refine r_imul G dX7_topLayer_50 ?_
        refine r_iload_n G 1 dX7_topLayer_51 rfl rfl ?_
        refine r_iadd G dX7_topLayer_52 ?_
        obtain ⟨o13, hyp⟩ := x_chk hyp
        refine r_callV (ι := xI) (T := TX7) (N := 22) (ci := 7) (b := a0) (rest := []) (As := [.int ((8 * x2) + x1)]) G hno tg_X7_top (fun r w' h => ct_X7_top (xhl G) _ _ _ r w' h) o13 hyp rfl ww_697 ww_699 ww_698 (by decide) (by decide) rfl rfl (xroom (Nat.le_of_ble_eq_true rfl)) dX7_topLayer_53 (push := (fun r12 => [.int r12])) (fun _ => rfl) (fun r12 w11 hyp => ?_)
        exact r_iret G hyp rfl (Nat.zero_le _) (Nat.zero_le _) dX7_topLayer_56
      · refine r_iconst (v := 0) G dX7_topLayer_42 (by decide) ?_
        refine r_goto G 56 dX7_topLayer_43 (by decide) ?_
        exact r_iret G hyp rfl (Nat.zero_le _) (Nat.zero_le _) dX7_topLayer_56
    · refine r_iconst (v := 2) G dX7_topLayer_27 (by decide) ?_
      refine r_goto G 32 dX7_topLayer_28 (by decide) ?_
      obtain ⟨w14, hw14, hyp⟩ := x_some hyp
      refine r_putv (C := RX7) (T := TX7) (N := 22) (ci := 7) G tyX7 tyX7_ok nmX7 0 hw14 rfl uw_7 (Nat.le_of_ble_eq_true rfl) rfl ww_594 rfl rfl rfl dX7_topLayer_32 ?_
      refine r_aload_n G 0 dX7_topLayer_35 rfl rfl ?_
      obtain ⟨v15, hv15, hyp⟩ := x_some hyp
      refine r_getv (C := RX7) (T := TX7) (N := 22) (ci := 7) G 0 (x_geti_e hv15) rfl uw_7 (Nat.le_of_ble_eq_true rfl) rfl ww_594 dX7_topLayer_36 ?_
      refine r_if_le G 46 dX7_topLayer_39 (by decide) hyp (fun c16 hyp => ?_) (fun c16 hyp => ?_)
      · refine r_aload_n G 0 dX7_topLayer_46 rfl rfl ?_
        refine r_bipush (v := 8) G dX7_topLayer_47 (by decide) ?_
        refine r_iload_n G 2 dX7_topLayer_49 rfl rfl ?_
        refine r_imul G dX7_topLayer_50 ?_
        refine r_iload_n G 1 dX7_topLayer_51 rfl rfl ?_
        refine r_iadd G dX7_topLayer_52 ?_
        obtain ⟨o19, hyp⟩ := x_chk hyp
        refine r_callV (ι := xI) (T := TX7) (N := 22) (ci := 7) (b := a0) (rest := []) (As := [.int ((8 * x2) + x1)]) G hno tg_X7_top (fun r w' h => ct_X7_top (xhl G) _ _ _ r w' h) o19 hyp rfl ww_697 ww_699 ww_698 (by decide) (by decide) rfl rfl (xroom (Nat.le_of_ble_eq_true rfl)) dX7_topLayer_53 (push := (fun r18 => [.int r18])) (fun _ => rfl) (fun r18 w17 hyp => ?_)
        exact r_iret G hyp rfl (Nat.zero_le _) (Nat.zero_le _) dX7_topLayer_56
      · refine r_iconst (v := 0) G dX7_topLayer_42 (by decide) ?_
        refine r_goto G 56 dX7_topLayer_43 (by decide) ?_
        exact r_iret G hyp rfl (Nat.zero_le _) (Nat.zero_le _) dX7_topLayer_56
  · refine r_iconst (v := 1) G dX7_topLayer_9 (by decide) ?_
    refine r_goto G 32 dX7_topLayer_10 (by decide) ?_
    obtain ⟨w20, hw20, hyp⟩ := x_some hyp
    refine r_putv (C := RX7) (T := TX7) (N := 22) (ci := 7) G tyX7 tyX7_ok nmX7 0 hw20 rfl uw_7 (Nat.le_of_ble_eq_true rfl) rfl ww_594 rfl rfl rfl dX7_topLayer_32 ?_
    refine r_aload_n G 0 dX7_topLayer_35 rfl rfl ?_
    obtain ⟨v21, hv21, hyp⟩ := x_some hyp
    refine r_getv (C := RX7) (T := TX7) (N := 22) (ci := 7) G 0 (x_geti_e hv21) rfl uw_7 (Nat.le_of_ble_eq_true rfl) rfl ww_594 dX7_topLayer_36 ?_
    refine r_if_le G 46 dX7_topLayer_39 (by decide) hyp (fun c22 hyp => ?_) (fun c22 hyp => ?_)
    · refine r_aload_n G 0 dX7_topLayer_46 rfl rfl ?_
      refine r_bipush (v := 8) G dX7_topLayer_47 (by decide) ?_
      refine r_iload_n G 2 dX7_topLayer_49 rfl rfl ?_
      refine r_imul G dX7_topLayer_50 ?_
      refine r_iload_n G 1 dX7_topLayer_51 rfl rfl ?_
      refine r_iadd G dX7_topLayer_52 ?_
      obtain ⟨o25, hyp⟩ := x_chk hyp
      refine r_callV (ι := xI) (T := TX7) (N := 22) (ci := 7) (b := a0) (rest := []) (As := [.int ((8 * x2) + x1)]) G hno tg_X7_top (fun r w' h => ct_X7_top (xhl G) _ _ _ r w' h) o25 hyp rfl ww_697 ww_699 ww_698 (by decide) (by decide) rfl rfl (xroom (Nat.le_of_ble_eq_true rfl)) dX7_topLayer_53 (push := (fun r24 => [.int r24])) (fun _ => rfl) (fun r24 w23 hyp => ?_)
      exact r_iret G hyp rfl (Nat.zero_le _) (Nat.zero_le _) dX7_topLayer_56
    · refine r_iconst (v := 0) G dX7_topLayer_42 (by decide) ?_
      refine r_goto G 56 dX7_topLayer_43 (by decide) ?_
      exact r_iret G hyp rfl (Nat.zero_le _) (Nat.zero_le _) dX7_topLayer_56
theorem tg_X7_undo : xTgt yX7_undo cX7_undo 2 (some .int) 0 := ⟨ww_798, ww_574, by decide, by decide +kernel, by decide +kernel⟩
section
variable {Γ : xG} {p : Program} {l : Launch} {e : Env} {s : State} {m : MethodId} {args : Array Value} {below : List Frame} {meth : Method} {c : Code} {rF : Int32 ⊕ String} {wF : xW}
set_option maxRecDepth 100000 in
set_option maxHeartbeats 4000000 in
theorem nd_X7_undo_L30 (G : xCx Γ p l s m args meth c RX7 cX7_undo 2 (some .int)) (hno : ∀ x ∈ c.exceptionTable.toList, False) : ∀ (n : Nat) (a0 : Nat) (x1 : Int32) (w0 : xW), f_X7_undo_L30 n a0 x1 w0 = some (rF, wF) → xAW Γ p l e (xRm 1 (x_mc rF) (x_ms rF)) s m args below meth c 2 (xQm Γ below xI rF wF args s (x_mc rF) (x_ms rF)) w0 0 0 30 [(0, .ref a0), (1, .int x1)] [] := by
  intro n
  induction n with
  | zero =>
    intro a0 x1 w0 hyp
    cases (show (none : xO Int32) = some (rF, wF) from hyp)
  | succ n ih =>
    intro a0 x1 w0 hyp
    rw [f_X7_undo_L30] at hyp
    refine r_iload_n G 1 dX7_undo_30 rfl rfl ?_
    refine r_sipush (v := 303) G dX7_undo_31 (by decide) ?_
    refine r_icmp_ge G 64 dX7_undo_34 (by decide) hyp (fun c6 hyp => ?_) (fun c6 hyp => ?_)
    · refine r_aload_n G 0 dX7_undo_64 rfl rfl ?_
      obtain ⟨v7, hv7, hyp⟩ := x_some hyp
      refine r_getv (C := RX7) (T := TX7) (N := 22) (ci := 7) G 5 (x_geti_e hv7) rfl uw_7 (Nat.le_of_ble_eq_true rfl) rfl ww_592 dX7_undo_65 ?_
      exact r_iret G hyp rfl (Nat.zero_le _) (Nat.zero_le _) dX7_undo_68
    · refine r_aload_n G 0 dX7_undo_37 rfl rfl ?_
      obtain ⟨v8, hv8, hyp⟩ := x_some hyp
      refine r_getv (C := RX7) (T := TX7) (N := 22) (ci := 7) G 1 (x_getr_e hv8) rfl uw_7 (Nat.le_of_ble_eq_true rfl) rfl ww_561 dX7_undo_38 ?_
      refine r_iload_n G 1 dX7_undo_41 rfl rfl ?_
      refine r_aload_n G 0 dX7_undo_42 rfl rfl ?_
      obtain ⟨v9, hv9, hyp⟩ := x_some hyp
      refine r_getv (C := RX7) (T := TX7) (N := 22) (ci := 7) G 4 (x_getr_e hv9) rfl uw_7 (Nat.le_of_ble_eq_true rfl) rfl ww_564 dX7_undo_43 ?_
      refine r_sipush (v := 303) G dX7_undo_46 (by decide) ?_
      refine r_aload_n G 0 dX7_undo_49 rfl rfl ?_
      obtain ⟨v10, hv10, hyp⟩ := x_some hyp
      refine r_getv (C := RX7) (T := TX7) (N := 22) (ci := 7) G 5 (x_geti_e hv10) rfl uw_7 (Nat.le_of_ble_eq_true rfl) rfl ww_592 dX7_undo_50 ?_
      refine r_imul G dX7_undo_53 ?_
      refine r_iload_n G 1 dX7_undo_54 rfl rfl ?_
      refine r_iadd G dX7_undo_55 ?_
      refine r_ref hyp (fun a11 ha11 hz => ?_)
      clear hyp; subst ha11; have hyp := hz; clear hz
      obtain ⟨v12, hv12, hyp⟩ := x_some hyp
      refine r_iald G hv12 dX7_undo_56 ?_
      refine r_ref hyp (fun a13 ha13 hz => ?_)
      clear hyp; subst ha13; have hyp := hz; clear hz
      obtain ⟨w14, hw14, hyp⟩ := x_some hyp
      refine r_iast G hw14 dX7_undo_57 ?_
      refine r_iinc (v := (x1 + 1)) (lv' := [(1, .int (x1 + 1)), (0, .ref a0)]) G 1 dX7_undo_58 rfl rfl (by decide) ⟨fun _ => rfl, fun _ => rfl, trivial⟩ rfl ?_
      refine r_goto G 30 dX7_undo_61 (by decide) ?_
      refine r_weak (lv' := [(0, .ref a0), (1, .int (x1 + 1))]) [1, 0] rfl ?_
      exact ih a0 (x1 + 1) w14 hyp
end
set_option maxRecDepth 100000 in
set_option maxHeartbeats 4000000 in
theorem ct_X7_undo {Γ : xG} {l : Launch} (hl : l.stackTraces = false) (a0 : Nat) (w0 : xW) (rF : Int32 ⊕ String) (wF : xW) (hyp : f_X7_undo a0 w0 = some (rF, wF)) : xMet Γ l yX7_undo (xws yX7_undo cX7_undo 2 (some .int)) 1 xI [.ref a0] w0 rF wF (x_mc rF) (x_ms rF) := by
  refine xOfW tg_X7_undo hl (lv0 := [(0, .ref a0)]) (Nat.le_of_ble_eq_true rfl) rfl ?_
  intro p e s m below meth c G hno hin
  rw [f_X7_undo] at hyp
  refine r_aload_n G 0 dX7_undo_0 rfl rfl ?_
  refine r_iconst (v := 0) G dX7_undo_1 (by decide) ?_
  obtain ⟨w1, hw1, hyp⟩ := x_some hyp
  refine r_putv (C := RX7) (T := TX7) (N := 22) (ci := 7) G tyX7 tyX7_ok nmX7 0 hw1 rfl uw_7 (Nat.le_of_ble_eq_true rfl) rfl ww_594 rfl rfl rfl dX7_undo_2 ?_
  refine r_aload_n G 0 dX7_undo_5 rfl rfl ?_
  obtain ⟨v2, hv2, hyp⟩ := x_some hyp
  refine r_getv (C := RX7) (T := TX7) (N := 22) (ci := 7) G 5 (x_geti_e hv2) rfl uw_7 (Nat.le_of_ble_eq_true rfl) rfl ww_592 dX7_undo_6 ?_
  refine r_if_ne G 18 dX7_undo_9 (by decide) hyp (fun c3 hyp => ?_) (fun c3 hyp => ?_)
  · refine r_aload_n G 0 dX7_undo_18 rfl rfl ?_
    refine r_dup G dX7_undo_19 rfl ?_
    obtain ⟨v4, hv4, hyp⟩ := x_some hyp
    refine r_getv (C := RX7) (T := TX7) (N := 22) (ci := 7) G 5 (x_geti_e hv4) rfl uw_7 (Nat.le_of_ble_eq_true rfl) rfl ww_592 dX7_undo_20 ?_
    refine r_iconst (v := 1) G dX7_undo_23 (by decide) ?_
    refine r_isub G dX7_undo_24 ?_
    obtain ⟨w5, hw5, hyp⟩ := x_some hyp
    refine r_putv (C := RX7) (T := TX7) (N := 22) (ci := 7) G tyX7 tyX7_ok nmX7 5 hw5 rfl uw_7 (Nat.le_of_ble_eq_true rfl) rfl ww_592 rfl rfl rfl dX7_undo_25 ?_
    refine r_iconst (v := 0) G dX7_undo_28 (by decide) ?_
    refine r_istore_n (lv' := [(1, .int 0), (0, .ref a0)]) G dX7_undo_29 rfl (by decide) ⟨fun _ => rfl, trivial⟩ rfl ?_
    refine r_weak (lv' := [(0, .ref a0), (1, .int 0)]) [1, 0] rfl ?_
    exact nd_X7_undo_L30 G hno xfuel a0 0 w5 hyp
  · refine r_aload_n G 0 dX7_undo_12 rfl rfl ?_
    refine r_iconst (v := 1) G dX7_undo_13 (by decide) ?_
    obtain ⟨o17, hyp⟩ := x_chk hyp
    refine r_callV (ι := xI) (T := TX7) (N := 22) (ci := 7) (b := a0) (rest := []) (As := [.int 1]) G hno tg_X7_fails (fun r w' h => ct_X7_fails (xhl G) _ _ _ r w' h) o17 hyp rfl ww_596 ww_598 ww_597 (by decide) (by decide) rfl rfl (xroom (Nat.le_of_ble_eq_true rfl)) dX7_undo_14 (push := (fun r16 => [.int r16])) (fun _ => rfl) (fun r16 w15 hyp => ?_)
    exact r_iret G hyp rfl (Nat.zero_le _) (Nat.zero_le _) dX7_undo_17
theorem tg_X7_undoCount : xTgt yX7_undoCount cX7_undoCount 1 (some .int) 0 := ⟨ww_799, ww_574, by decide, by decide +kernel, by decide +kernel⟩
section
variable {Γ : xG} {p : Program} {l : Launch} {e : Env} {s : State} {m : MethodId} {args : Array Value} {below : List Frame} {meth : Method} {c : Code} {rF : Int32 ⊕ String} {wF : xW}
end
set_option maxRecDepth 100000 in
set_option maxHeartbeats 4000000 in
theorem ct_X7_undoCount {Γ : xG} {l : Launch} (hl : l.stackTraces = false) (a0 : Nat) (w0 : xW) (rF : Int32 ⊕ String) (wF : xW) (hyp : f_X7_undoCount a0 w0 = some (rF, wF)) : xMet Γ l yX7_undoCount (xws yX7_undoCount cX7_undoCount 1 (some .int)) 0 xI [.ref a0] w0 rF wF (x_mc rF) (x_ms rF) := by
  refine xOfW tg_X7_undoCount hl (lv0 := [(0, .ref a0)]) (Nat.le_of_ble_eq_true rfl) rfl ?_
  intro p e s m below meth c G hno hin
  rw [f_X7_undoCount] at hyp
  refine r_aload_n G 0 dX7_undoCount_0 rfl rfl ?_
  refine r_iconst (v := 0) G dX7_undoCount_1 (by decide) ?_
  obtain ⟨w1, hw1, hyp⟩ := x_some hyp
  refine r_putv (C := RX7) (T := TX7) (N := 22) (ci := 7) G tyX7 tyX7_ok nmX7 0 hw1 rfl uw_7 (Nat.le_of_ble_eq_true rfl) rfl ww_594 rfl rfl rfl dX7_undoCount_2 ?_
  refine r_aload_n G 0 dX7_undoCount_5 rfl rfl ?_
  obtain ⟨v2, hv2, hyp⟩ := x_some hyp
  refine r_getv (C := RX7) (T := TX7) (N := 22) (ci := 7) G 5 (x_geti_e hv2) rfl uw_7 (Nat.le_of_ble_eq_true rfl) rfl ww_592 dX7_undoCount_6 ?_
  exact r_iret G hyp rfl (Nat.zero_le _) (Nat.zero_le _) dX7_undoCount_9
theorem tg_X7_visibleCount : xTgt yX7_visibleCount cX7_visibleCount 1 (some .int) 0 := ⟨ww_800, ww_574, by decide, by decide +kernel, by decide +kernel⟩
section
variable {Γ : xG} {p : Program} {l : Launch} {e : Env} {s : State} {m : MethodId} {args : Array Value} {below : List Frame} {meth : Method} {c : Code} {rF : Int32 ⊕ String} {wF : xW}
end
set_option maxRecDepth 100000 in
set_option maxHeartbeats 4000000 in
theorem ct_X7_visibleCount {Γ : xG} {l : Launch} (hl : l.stackTraces = false) (a0 : Nat) (w0 : xW) (rF : Int32 ⊕ String) (wF : xW) (hyp : f_X7_visibleCount a0 w0 = some (rF, wF)) : xMet Γ l yX7_visibleCount (xws yX7_visibleCount cX7_visibleCount 1 (some .int)) 2 xI [.ref a0] w0 rF wF (x_mc rF) (x_ms rF) := by
  refine xOfW tg_X7_visibleCount hl (lv0 := [(0, .ref a0)]) (Nat.le_of_ble_eq_true rfl) rfl ?_
  intro p e s m below meth c G hno hin
  rw [f_X7_visibleCount] at hyp
  refine r_aload_n G 0 dX7_visibleCount_0 rfl rfl ?_
  refine r_iconst (v := 0) G dX7_visibleCount_1 (by decide) ?_
  obtain ⟨w1, hw1, hyp⟩ := x_some hyp
  refine r_putv (C := RX7) (T := TX7) (N := 22) (ci := 7) G tyX7 tyX7_ok nmX7 0 hw1 rfl uw_7 (Nat.le_of_ble_eq_true rfl) rfl ww_594 rfl rfl rfl dX7_visibleCount_2 ?_
  refine r_aload_n G 0 dX7_visibleCount_5 rfl rfl ?_
  obtain ⟨o4, hyp⟩ := x_chk hyp
  refine r_callV (ι := xI) (T := TX7) (N := 22) (ci := 7) (b := a0) (rest := []) (As := []) G hno tg_X7_showing (fun r w' h => ct_X7_showing (xhl G) _ _ r w' h) o4 hyp rfl ww_717 ww_719 ww_718 (by decide) (by decide) rfl rfl (xroom (Nat.le_of_ble_eq_true rfl)) dX7_visibleCount_6 (push := (fun r3 => [.int r3])) (fun _ => rfl) (fun r3 w2 hyp => ?_)
  exact r_iret G hyp rfl (Nat.zero_le _) (Nat.zero_le _) dX7_visibleCount_9
theorem tg_X7_writes : xTgt yX7_writes cX7_writes 2 none 1 := ⟨ww_801, ww_574, by decide, by decide +kernel, by decide +kernel⟩
section
variable {Γ : xG} {p : Program} {l : Launch} {e : Env} {s : State} {m : MethodId} {args : Array Value} {below : List Frame} {meth : Method} {c : Code} {rF : Unit ⊕ String} {wF : xW}
end
set_option maxRecDepth 100000 in
set_option maxHeartbeats 4000000 in
theorem ct_X7_writes {Γ : xG} {l : Launch} (hl : l.stackTraces = false) (a0 : Nat) (x1 : Int32) (w0 : xW) (rF : Unit ⊕ String) (wF : xW) (hyp : f_X7_writes a0 x1 w0 = some (rF, wF)) : xMet Γ l yX7_writes (xws yX7_writes cX7_writes 2 none) 0 xV [.ref a0, .int x1] w0 rF wF (x_mc rF) (x_ms rF) := by
  refine xOfW tg_X7_writes hl (lv0 := [(0, .ref a0), (1, .int x1)]) (Nat.le_of_ble_eq_true rfl) rfl ?_
  intro p e s m below meth c G hno hin
  rw [f_X7_writes] at hyp
  refine r_aload_n G 0 dX7_writes_0 rfl rfl ?_
  obtain ⟨v1, hv1, hyp⟩ := x_some hyp
  refine r_getv (C := RX7) (T := TX7) (N := 22) (ci := 7) G 9 (x_getr_e hv1) rfl uw_7 (Nat.le_of_ble_eq_true rfl) rfl ww_567 dX7_writes_1 ?_
  refine r_aload_n G 0 dX7_writes_4 rfl rfl ?_
  obtain ⟨v2, hv2, hyp⟩ := x_some hyp
  refine r_getv (C := RX7) (T := TX7) (N := 22) (ci := 7) G 14 (x_geti_e hv2) rfl uw_7 (Nat.le_of_ble_eq_true rfl) rfl ww_757 dX7_writes_5 ?_
  refine r_iload_n G 1 dX7_writes_8 rfl rfl ?_
  refine r_ref hyp (fun a3 ha3 hz => ?_)
  clear hyp; subst ha3; have hyp := hz; clear hz
  obtain ⟨w4, hw4, hyp⟩ := x_some hyp
  refine r_iast G hw4 dX7_writes_9 ?_
  refine r_aload_n G 0 dX7_writes_10 rfl rfl ?_
  refine r_dup G dX7_writes_11 rfl ?_
  obtain ⟨v5, hv5, hyp⟩ := x_some hyp
  refine r_getv (C := RX7) (T := TX7) (N := 22) (ci := 7) G 14 (x_geti_e hv5) rfl uw_7 (Nat.le_of_ble_eq_true rfl) rfl ww_757 dX7_writes_12 ?_
  refine r_iconst (v := 1) G dX7_writes_15 (by decide) ?_
  refine r_iadd G dX7_writes_16 ?_
  obtain ⟨w6, hw6, hyp⟩ := x_some hyp
  refine r_putv (C := RX7) (T := TX7) (N := 22) (ci := 7) G tyX7 tyX7_ok nmX7 14 hw6 rfl uw_7 (Nat.le_of_ble_eq_true rfl) rfl ww_757 rfl rfl rfl dX7_writes_17 ?_
  exact r_vret G hyp (Nat.zero_le _) (Nat.zero_le _) dX7_writes_20
theorem tg_X7_writeLayers : xTgt yX7_writeLayers cX7_writeLayers 3 (some .int) 0 := ⟨ww_805, ww_574, by decide, by decide +kernel, by decide +kernel⟩
section
variable {Γ : xG} {p : Program} {l : Launch} {e : Env} {s : State} {m : MethodId} {args : Array Value} {below : List Frame} {meth : Method} {c : Code} {rF : Int32 ⊕ String} {wF : xW}
set_option maxRecDepth 100000 in
set_option maxHeartbeats 4000000 in
theorem nd_X7_writeLayers_J55 {k12 : Nat → Int32 → xW → xO Int32} (G : xCx Γ p l s m args meth c RX7 cX7_writeLayers 3 (some .int)) (hno : ∀ x ∈ c.exceptionTable.toList, False) (hk12 : ∀ (a0 : Nat) (x1 : Int32) (w : xW), k12 a0 x1 w = some (rF, wF) → xAW Γ p l e (xRm 2 (x_mc rF) (x_ms rF)) s m args below meth c 3 (xQm Γ below xI rF wF args s (x_mc rF) (x_ms rF)) w 0 0 12 [(0, .ref a0), (1, .int x1)] []) (a0 : Nat) (x1 : Int32) (w0 : xW) (hyp : f_X7_writeLayers_J55 k12 a0 x1 w0 = some (rF, wF)) : xAW Γ p l e (xRm 2 (x_mc rF) (x_ms rF)) s m args below meth c 3 (xQm Γ below xI rF wF args s (x_mc rF) (x_ms rF)) w0 0 0 55 [(0, .ref a0), (1, .int x1)] [] := by
  rw [f_X7_writeLayers_J55] at hyp
  refine r_aload_n G 0 dX7_writeLayers_55 rfl rfl ?_
  refine r_iload_n G 1 dX7_writeLayers_56 rfl rfl ?_
  obtain ⟨o21, hyp⟩ := x_chk hyp
  refine r_callV (ι := xI) (T := TX7) (N := 22) (ci := 7) (b := a0) (rest := []) (As := [.int x1]) G hno tg_X7_full (fun r w' h => ct_X7_full (xhl G) _ _ _ r w' h) o21 hyp rfl ww_681 ww_683 ww_682 (by decide) (by decide) rfl rfl (xroom (Nat.le_of_ble_eq_true rfl)) dX7_writeLayers_57 (push := (fun r20 => [.int r20])) (fun _ => rfl) (fun r20 w19 hyp => ?_)
  refine r_istore_n (lv' := [(2, .int r20), (0, .ref a0), (1, .int x1)]) G dX7_writeLayers_60 rfl (by decide) ⟨fun _ => rfl, fun _ => rfl, trivial⟩ rfl ?_
  refine r_iload_n G 0 dX7_writeLayers_61 rfl rfl ?_
  refine r_bipush (v := 9) G dX7_writeLayers_62 (by decide) ?_
  refine r_icmp_le G 78 dX7_writeLayers_64 (by decide) hyp (fun c22 hyp => ?_) (fun c22 hyp => ?_)
  · refine r_aload_n G 1 dX7_writeLayers_78 rfl rfl ?_
    refine r_bipush (v := 48) G dX7_writeLayers_79 (by decide) ?_
    refine r_iload_n G 0 dX7_writeLayers_81 rfl rfl ?_
    refine r_bipush (v := 10) G dX7_writeLayers_82 (by decide) ?_
    refine r_irem G dX7_writeLayers_84 (by decide) ?_
    refine r_iadd G dX7_writeLayers_85 ?_
    obtain ⟨o25, hyp⟩ := x_chk hyp
    refine r_callV (ι := xV) (T := TX7) (N := 22) (ci := 7) (b := a0) (rest := []) (As := [.int (48 + (r20 - r20 / 10 * 10))]) G hno tg_X7_writes (fun r w' h => ct_X7_writes (xhl G) _ _ _ r w' h) o25 hyp rfl ww_802 ww_804 ww_803 (by decide) (by decide) rfl rfl (xroom (Nat.le_of_ble_eq_true rfl)) dX7_writeLayers_86 (push := (fun _ => [])) (fun _ => rfl) (fun _ w23 hyp => ?_)
    refine r_iinc (v := (x1 + 1)) (lv' := [(1, .int (x1 + 1)), (2, .int r20), (0, .ref a0)]) G 2 dX7_writeLayers_89 rfl rfl (by decide) ⟨fun _ => rfl, fun _ => rfl, fun _ => rfl, trivial⟩ rfl ?_
    refine r_goto G 12 dX7_writeLayers_92 (by decide) ?_
    refine r_weak (lv' := [(0, .ref a0), (1, .int (x1 + 1))]) [2, 0] rfl ?_
    exact hk12 a0 (x1 + 1) w23 hyp
  · refine r_aload_n G 1 dX7_writeLayers_67 rfl rfl ?_
    refine r_bipush (v := 48) G dX7_writeLayers_68 (by decide) ?_
    refine r_iload_n G 0 dX7_writeLayers_70 rfl rfl ?_
    refine r_bipush (v := 10) G dX7_writeLayers_71 (by decide) ?_
    refine r_idiv G dX7_writeLayers_73 (by decide) ?_
    refine r_iadd G dX7_writeLayers_74 ?_
    obtain ⟨o28, hyp⟩ := x_chk hyp
    refine r_callV (ι := xV) (T := TX7) (N := 22) (ci := 7) (b := a0) (rest := []) (As := [.int (48 + (r20 / 10))]) G hno tg_X7_writes (fun r w' h => ct_X7_writes (xhl G) _ _ _ r w' h) o28 hyp rfl ww_802 ww_804 ww_803 (by decide) (by decide) rfl rfl (xroom (Nat.le_of_ble_eq_true rfl)) dX7_writeLayers_75 (push := (fun _ => [])) (fun _ => rfl) (fun _ w26 hyp => ?_)
    refine r_aload_n G 1 dX7_writeLayers_78 rfl rfl ?_
    refine r_bipush (v := 48) G dX7_writeLayers_79 (by decide) ?_
    refine r_iload_n G 0 dX7_writeLayers_81 rfl rfl ?_
    refine r_bipush (v := 10) G dX7_writeLayers_82 (by decide) ?_
    refine r_irem G dX7_writeLayers_84 (by decide) ?_
    refine r_iadd G dX7_writeLayers_85 ?_
    obtain ⟨o31, hyp⟩ := x_chk hyp
    refine r_callV (ι := xV) (T := TX7) (N := 22) (ci := 7) (b := a0) (rest := []) (As := [.int (48 + (r20 - r20 / 10 * 10))]) G hno tg_X7_writes (fun r w' h => ct_X7_writes (xhl G) _ _ _ r w' h) o31 hyp rfl ww_802 ww_804 ww_803 (by decide) (by decide) rfl rfl (xroom (Nat.le_of_ble_eq_true rfl)) dX7_writeLayers_86 (push := (fun _ => [])) (fun _ => rfl) (fun _ w29 hyp => ?_)
    refine r_iinc (v := (x1 + 1)) (lv' := [(1, .int (x1 + 1)), (2, .int r20), (0, .ref a0)]) G 2 dX7_writeLayers_89 rfl rfl (by decide) ⟨fun _ => rfl, fun _ => rfl, fun _ => rfl, trivial⟩ rfl ?_
    refine r_goto G 12 dX7_writeLayers_92 (by decide) ?_
    refine r_weak (lv' := [(0, .ref a0), (1, .int (x1 + 1))]) [2, 0] rfl ?_
    exact hk12 a0 (x1 + 1) w29 hyp
set_option maxRecDepth 100000 in
set_option maxHeartbeats 4000000 in
theorem nd_X7_writeLayers_J32 {k12 : Nat → Int32 → xW → xO Int32} (G : xCx Γ p l s m args meth c RX7 cX7_writeLayers 3 (some .int)) (hno : ∀ x ∈ c.exceptionTable.toList, False) (hk12 : ∀ (a0 : Nat) (x1 : Int32) (w : xW), k12 a0 x1 w = some (rF, wF) → xAW Γ p l e (xRm 2 (x_mc rF) (x_ms rF)) s m args below meth c 3 (xQm Γ below xI rF wF args s (x_mc rF) (x_ms rF)) w 0 0 12 [(0, .ref a0), (1, .int x1)] []) (a0 : Nat) (x1 : Int32) (w0 : xW) (hyp : f_X7_writeLayers_J32 k12 a0 x1 w0 = some (rF, wF)) : xAW Γ p l e (xRm 2 (x_mc rF) (x_ms rF)) s m args below meth c 3 (xQm Γ below xI rF wF args s (x_mc rF) (x_ms rF)) w0 0 0 32 [(0, .ref a0), (1, .int x1)] [] := by
  rw [f_X7_writeLayers_J32] at hyp
  refine r_aload_n G 0 dX7_writeLayers_32 rfl rfl ?_
  refine r_aload_n G 0 dX7_writeLayers_33 rfl rfl ?_
  refine r_iload_n G 1 dX7_writeLayers_34 rfl rfl ?_
  obtain ⟨o11, hyp⟩ := x_chk hyp
  refine r_callV (ι := xI) (T := TX7) (N := 22) (ci := 7) (b := a0) (rest := [.ref a0]) (As := [.int x1]) G hno tg_X7_mode0 (fun r w' h => ct_X7_mode0 (xhl G) _ _ _ r w' h) o11 hyp rfl ww_624 ww_626 ww_625 (by decide) (by decide) rfl rfl (xroom (Nat.le_of_ble_eq_true rfl)) dX7_writeLayers_35 (push := (fun r10 => [.int r10, .ref a0])) (fun _ => rfl) (fun r10 w9 hyp => ?_)
  obtain ⟨o14, hyp⟩ := x_chk hyp
  refine r_callV (ι := xV) (T := TX7) (N := 22) (ci := 7) (b := a0) (rest := []) (As := [.int r10]) G hno tg_X7_writes (fun r w' h => ct_X7_writes (xhl G) _ _ _ r w' h) o14 hyp rfl ww_802 ww_804 ww_803 (by decide) (by decide) rfl rfl (xroom (Nat.le_of_ble_eq_true rfl)) dX7_writeLayers_38 (push := (fun _ => [])) (fun _ => rfl) (fun _ w12 hyp => ?_)
  refine r_aload_n G 0 dX7_writeLayers_41 rfl rfl ?_
  refine r_iload_n G 1 dX7_writeLayers_42 rfl rfl ?_
  obtain ⟨o17, hyp⟩ := x_chk hyp
  refine r_callV (ι := xI) (T := TX7) (N := 22) (ci := 7) (b := a0) (rest := []) (As := [.int x1]) G hno tg_X7_shown (fun r w' h => ct_X7_shown (xhl G) _ _ _ r w' h) o17 hyp rfl ww_618 ww_620 ww_619 (by decide) (by decide) rfl rfl (xroom (Nat.le_of_ble_eq_true rfl)) dX7_writeLayers_43 (push := (fun r16 => [.int r16])) (fun _ => rfl) (fun r16 w15 hyp => ?_)
  refine r_if_ne G 55 dX7_writeLayers_46 (by decide) hyp (fun c18 hyp => ?_) (fun c18 hyp => ?_)
  · exact nd_X7_writeLayers_J55 G hno hk12 a0 x1 w15 hyp
  · refine r_aload_n G 0 dX7_writeLayers_49 rfl rfl ?_
    refine r_bipush (v := 45) G dX7_writeLayers_50 (by decide) ?_
    obtain ⟨o34, hyp⟩ := x_chk hyp
    refine r_callV (ι := xV) (T := TX7) (N := 22) (ci := 7) (b := a0) (rest := []) (As := [.int 45]) G hno tg_X7_writes (fun r w' h => ct_X7_writes (xhl G) _ _ _ r w' h) o34 hyp rfl ww_802 ww_804 ww_803 (by decide) (by decide) rfl rfl (xroom (Nat.le_of_ble_eq_true rfl)) dX7_writeLayers_52 (push := (fun _ => [])) (fun _ => rfl) (fun _ w32 hyp => ?_)
    exact nd_X7_writeLayers_J55 G hno hk12 a0 x1 w32 hyp
set_option maxRecDepth 100000 in
set_option maxHeartbeats 4000000 in
theorem nd_X7_writeLayers_L12 (G : xCx Γ p l s m args meth c RX7 cX7_writeLayers 3 (some .int)) (hno : ∀ x ∈ c.exceptionTable.toList, False) : ∀ (n : Nat) (a0 : Nat) (x1 : Int32) (w0 : xW), f_X7_writeLayers_L12 n a0 x1 w0 = some (rF, wF) → xAW Γ p l e (xRm 2 (x_mc rF) (x_ms rF)) s m args below meth c 3 (xQm Γ below xI rF wF args s (x_mc rF) (x_ms rF)) w0 0 0 12 [(0, .ref a0), (1, .int x1)] [] := by
  intro n
  induction n with
  | zero =>
    intro a0 x1 w0 hyp
    cases (show (none : xO Int32) = some (rF, wF) from hyp)
  | succ n ih =>
    intro a0 x1 w0 hyp
    rw [f_X7_writeLayers_L12] at hyp
    refine r_iload_n G 1 dX7_writeLayers_12 rfl rfl ?_
    refine r_aload_n G 0 dX7_writeLayers_13 rfl rfl ?_
    obtain ⟨v3, hv3, hyp⟩ := x_some hyp
    refine r_getv (C := RX7) (T := TX7) (N := 22) (ci := 7) G 1 (x_getr_e hv3) rfl uw_7 (Nat.le_of_ble_eq_true rfl) rfl ww_561 dX7_writeLayers_14 ?_
    refine r_iconst (v := 0) G dX7_writeLayers_17 (by decide) ?_
    refine r_ref hyp (fun a4 ha4 hz => ?_)
    clear hyp; subst ha4; have hyp := hz; clear hz
    obtain ⟨v5, hv5, hyp⟩ := x_some hyp
    refine r_iald G hv5 dX7_writeLayers_18 ?_
    refine r_icmp_ge G 95 dX7_writeLayers_19 (by decide) hyp (fun c6 hyp => ?_) (fun c6 hyp => ?_)
    · refine r_aload_n G 0 dX7_writeLayers_95 rfl rfl ?_
      obtain ⟨v7, hv7, hyp⟩ := x_some hyp
      refine r_getv (C := RX7) (T := TX7) (N := 22) (ci := 7) G 14 (x_geti_e hv7) rfl uw_7 (Nat.le_of_ble_eq_true rfl) rfl ww_757 dX7_writeLayers_96 ?_
      exact r_iret G hyp rfl (Nat.zero_le _) (Nat.zero_le _) dX7_writeLayers_99
    · refine r_iload_n G 1 dX7_writeLayers_22 rfl rfl ?_
      refine r_if_le G 32 dX7_writeLayers_23 (by decide) hyp (fun c8 hyp => ?_) (fun c8 hyp => ?_)
      · exact nd_X7_writeLayers_J32 G hno ih a0 x1 w0 hyp
      · refine r_aload_n G 0 dX7_writeLayers_26 rfl rfl ?_
        refine r_bipush (v := 32) G dX7_writeLayers_27 (by decide) ?_
        obtain ⟨o37, hyp⟩ := x_chk hyp
        refine r_callV (ι := xV) (T := TX7) (N := 22) (ci := 7) (b := a0) (rest := []) (As := [.int 32]) G hno tg_X7_writes (fun r w' h => ct_X7_writes (xhl G) _ _ _ r w' h) o37 hyp rfl ww_802 ww_804 ww_803 (by decide) (by decide) rfl rfl (xroom (Nat.le_of_ble_eq_true rfl)) dX7_writeLayers_29 (push := (fun _ => [])) (fun _ => rfl) (fun _ w35 hyp => ?_)
        exact nd_X7_writeLayers_J32 G hno ih a0 x1 w35 hyp
end
set_option maxRecDepth 100000 in
set_option maxHeartbeats 4000000 in
theorem ct_X7_writeLayers {Γ : xG} {l : Launch} (hl : l.stackTraces = false) (a0 : Nat) (w0 : xW) (rF : Int32 ⊕ String) (wF : xW) (hyp : f_X7_writeLayers a0 w0 = some (rF, wF)) : xMet Γ l yX7_writeLayers (xws yX7_writeLayers cX7_writeLayers 3 (some .int)) 2 xI [.ref a0] w0 rF wF (x_mc rF) (x_ms rF) := by
  refine xOfW tg_X7_writeLayers hl (lv0 := [(0, .ref a0)]) (Nat.le_of_ble_eq_true rfl) rfl ?_
  intro p e s m below meth c G hno hin
  rw [f_X7_writeLayers] at hyp
  refine r_aload_n G 0 dX7_writeLayers_0 rfl rfl ?_
  refine r_iconst (v := 0) G dX7_writeLayers_1 (by decide) ?_
  obtain ⟨w1, hw1, hyp⟩ := x_some hyp
  refine r_putv (C := RX7) (T := TX7) (N := 22) (ci := 7) G tyX7 tyX7_ok nmX7 0 hw1 rfl uw_7 (Nat.le_of_ble_eq_true rfl) rfl ww_594 rfl rfl rfl dX7_writeLayers_2 ?_
  refine r_aload_n G 0 dX7_writeLayers_5 rfl rfl ?_
  refine r_iconst (v := 0) G dX7_writeLayers_6 (by decide) ?_
  obtain ⟨w2, hw2, hyp⟩ := x_some hyp
  refine r_putv (C := RX7) (T := TX7) (N := 22) (ci := 7) G tyX7 tyX7_ok nmX7 14 hw2 rfl uw_7 (Nat.le_of_ble_eq_true rfl) rfl ww_757 rfl rfl rfl dX7_writeLayers_7 ?_
  refine r_iconst (v := 0) G dX7_writeLayers_10 (by decide) ?_
  refine r_istore_n (lv' := [(1, .int 0), (0, .ref a0)]) G dX7_writeLayers_11 rfl (by decide) ⟨fun _ => rfl, trivial⟩ rfl ?_
  refine r_weak (lv' := [(0, .ref a0), (1, .int 0)]) [1, 0] rfl ?_
  exact nd_X7_writeLayers_L12 G hno xfuel a0 0 w2 hyp
theorem tg_X7_writeRow : xTgt yX7_writeRow cX7_writeRow 4 (some .int) 1 := ⟨ww_806, ww_574, by decide, by decide +kernel, by decide +kernel⟩
section
variable {Γ : xG} {p : Program} {l : Launch} {e : Env} {s : State} {m : MethodId} {args : Array Value} {below : List Frame} {meth : Method} {c : Code} {rF : Int32 ⊕ String} {wF : xW}
set_option maxRecDepth 100000 in
set_option maxHeartbeats 4000000 in
theorem nd_X7_writeRow_L34 (G : xCx Γ p l s m args meth c RX7 cX7_writeRow 4 (some .int)) (hno : ∀ x ∈ c.exceptionTable.toList, False) : ∀ (n : Nat) (a0 : Nat) (x1 : Int32) (x2 : Int32) (w0 : xW), f_X7_writeRow_L34 n a0 x1 x2 w0 = some (rF, wF) → xAW Γ p l e (xRm 2 (x_mc rF) (x_ms rF)) s m args below meth c 4 (xQm Γ below xI rF wF args s (x_mc rF) (x_ms rF)) w0 0 0 34 [(0, .ref a0), (1, .int x1), (2, .int x2)] [] := by
  intro n
  induction n with
  | zero =>
    intro a0 x1 x2 w0 hyp
    cases (show (none : xO Int32) = some (rF, wF) from hyp)
  | succ n ih =>
    intro a0 x1 x2 w0 hyp
    rw [f_X7_writeRow_L34] at hyp
    refine r_iload_n G 2 dX7_writeRow_34 rfl rfl ?_
    refine r_bipush (v := 8) G dX7_writeRow_35 (by decide) ?_
    refine r_icmp_ge G 81 dX7_writeRow_37 (by decide) hyp (fun c8 hyp => ?_) (fun c8 hyp => ?_)
    · refine r_aload_n G 0 dX7_writeRow_81 rfl rfl ?_
      obtain ⟨v9, hv9, hyp⟩ := x_some hyp
      refine r_getv (C := RX7) (T := TX7) (N := 22) (ci := 7) G 14 (x_geti_e hv9) rfl uw_7 (Nat.le_of_ble_eq_true rfl) rfl ww_757 dX7_writeRow_82 ?_
      exact r_iret G hyp rfl (Nat.zero_le _) (Nat.zero_le _) dX7_writeRow_85
    · refine r_aload_n G 0 dX7_writeRow_40 rfl rfl ?_
      refine r_bipush (v := 8) G dX7_writeRow_41 (by decide) ?_
      refine r_iload_n G 1 dX7_writeRow_43 rfl rfl ?_
      refine r_imul G dX7_writeRow_44 ?_
      refine r_iload_n G 2 dX7_writeRow_45 rfl rfl ?_
      refine r_iadd G dX7_writeRow_46 ?_
      obtain ⟨o12, hyp⟩ := x_chk hyp
      refine r_callV (ι := xI) (T := TX7) (N := 22) (ci := 7) (b := a0) (rest := []) (As := [.int ((8 * x1) + x2)]) G hno tg_X7_look (fun r w' h => ct_X7_look (xhl G) _ _ _ r w' h) o12 hyp rfl ww_630 ww_632 ww_631 (by decide) (by decide) rfl rfl (xroom (Nat.le_of_ble_eq_true rfl)) dX7_writeRow_47 (push := (fun r11 => [.int r11])) (fun _ => rfl) (fun r11 w10 hyp => ?_)
      refine r_istore_n (lv' := [(3, .int r11), (0, .ref a0), (1, .int x1), (2, .int x2)]) G dX7_writeRow_50 rfl (by decide) ⟨fun _ => rfl, fun _ => rfl, fun _ => rfl, trivial⟩ rfl ?_
      refine r_aload_n G 1 dX7_writeRow_51 rfl rfl ?_
      refine r_iload_n G 0 dX7_writeRow_52 rfl rfl ?_
      refine r_bipush (v := 10) G dX7_writeRow_53 (by decide) ?_
      refine r_icmp_ge G 65 dX7_writeRow_55 (by decide) hyp (fun c13 hyp => ?_) (fun c13 hyp => ?_)
      · refine r_bipush (v := 97) G dX7_writeRow_65 (by decide) ?_
        refine r_iload_n G 0 dX7_writeRow_67 rfl rfl ?_
        refine r_iadd G dX7_writeRow_68 ?_
        refine r_bipush (v := 10) G dX7_writeRow_69 (by decide) ?_
        refine r_isub G dX7_writeRow_71 ?_
        obtain ⟨o16, hyp⟩ := x_chk hyp
        refine r_callV (ι := xV) (T := TX7) (N := 22) (ci := 7) (b := a0) (rest := []) (As := [.int ((97 + r11) - 10)]) G hno tg_X7_writes (fun r w' h => ct_X7_writes (xhl G) _ _ _ r w' h) o16 hyp rfl ww_802 ww_804 ww_803 (by decide) (by decide) rfl rfl (xroom (Nat.le_of_ble_eq_true rfl)) dX7_writeRow_72 (push := (fun _ => [])) (fun _ => rfl) (fun _ w14 hyp => ?_)
        refine r_iinc (v := (x2 + 1)) (lv' := [(2, .int (x2 + 1)), (3, .int r11), (0, .ref a0), (1, .int x1)]) G 3 dX7_writeRow_75 rfl rfl (by decide) ⟨fun _ => rfl, fun _ => rfl, fun _ => rfl, fun _ => rfl, trivial⟩ rfl ?_
        refine r_goto G 34 dX7_writeRow_78 (by decide) ?_
        refine r_weak (lv' := [(0, .ref a0), (1, .int x1), (2, .int (x2 + 1))]) [2, 3, 0] rfl ?_
        exact ih a0 x1 (x2 + 1) w14 hyp
      · refine r_bipush (v := 48) G dX7_writeRow_58 (by decide) ?_
        refine r_iload_n G 0 dX7_writeRow_60 rfl rfl ?_
        refine r_iadd G dX7_writeRow_61 ?_
        refine r_goto G 72 dX7_writeRow_62 (by decide) ?_
        obtain ⟨o19, hyp⟩ := x_chk hyp
        refine r_callV (ι := xV) (T := TX7) (N := 22) (ci := 7) (b := a0) (rest := []) (As := [.int (48 + r11)]) G hno tg_X7_writes (fun r w' h => ct_X7_writes (xhl G) _ _ _ r w' h) o19 hyp rfl ww_802 ww_804 ww_803 (by decide) (by decide) rfl rfl (xroom (Nat.le_of_ble_eq_true rfl)) dX7_writeRow_72 (push := (fun _ => [])) (fun _ => rfl) (fun _ w17 hyp => ?_)
        refine r_iinc (v := (x2 + 1)) (lv' := [(2, .int (x2 + 1)), (3, .int r11), (0, .ref a0), (1, .int x1)]) G 3 dX7_writeRow_75 rfl rfl (by decide) ⟨fun _ => rfl, fun _ => rfl, fun _ => rfl, fun _ => rfl, trivial⟩ rfl ?_
        refine r_goto G 34 dX7_writeRow_78 (by decide) ?_
        refine r_weak (lv' := [(0, .ref a0), (1, .int x1), (2, .int (x2 + 1))]) [2, 3, 0] rfl ?_
        exact ih a0 x1 (x2 + 1) w17 hyp
end
set_option maxRecDepth 100000 in
set_option maxHeartbeats 4000000 in
theorem ct_X7_writeRow {Γ : xG} {l : Launch} (hl : l.stackTraces = false) (a0 : Nat) (x1 : Int32) (w0 : xW) (rF : Int32 ⊕ String) (wF : xW) (hyp : f_X7_writeRow a0 x1 w0 = some (rF, wF)) : xMet Γ l yX7_writeRow (xws yX7_writeRow cX7_writeRow 4 (some .int)) 2 xI [.ref a0, .int x1] w0 rF wF (x_mc rF) (x_ms rF) := by
  refine xOfW tg_X7_writeRow hl (lv0 := [(0, .ref a0), (1, .int x1)]) (Nat.le_of_ble_eq_true rfl) rfl ?_
  intro p e s m below meth c G hno hin
  rw [f_X7_writeRow] at hyp
  refine r_aload_n G 0 dX7_writeRow_0 rfl rfl ?_
  refine r_iload_n G 1 dX7_writeRow_1 rfl rfl ?_
  refine r_iconst (v := 0) G dX7_writeRow_2 (by decide) ?_
  refine r_iconst (v := 5) G dX7_writeRow_3 (by decide) ?_
  refine r_callS (ι := xI) (rest := [.ref a0]) (As := [.int x1, .int 0, .int 5]) G hno tg_X7_in (fun r w' h => ct_X7_in (xhl G) _ _ _ _ r w' h) hyp ww_647 ww_648 (by decide) (by decide) rfl rfl (xroom (Nat.le_of_ble_eq_true rfl)) dX7_writeRow_4 (push := (fun r2 => [.int r2, .ref a0])) (fun _ => rfl) (fun r2 w1 hyp => ?_)
  refine r_if_eq G 14 dX7_writeRow_7 (by decide) hyp (fun c3 hyp => ?_) (fun c3 hyp => ?_)
  · refine r_iconst (v := 1) G dX7_writeRow_14 (by decide) ?_
    obtain ⟨w4, hw4, hyp⟩ := x_some hyp
    refine r_putv (C := RX7) (T := TX7) (N := 22) (ci := 7) G tyX7 tyX7_ok nmX7 0 hw4 rfl uw_7 (Nat.le_of_ble_eq_true rfl) rfl ww_594 rfl rfl rfl dX7_writeRow_15 ?_
    refine r_aload_n G 0 dX7_writeRow_18 rfl rfl ?_
    obtain ⟨v5, hv5, hyp⟩ := x_some hyp
    refine r_getv (C := RX7) (T := TX7) (N := 22) (ci := 7) G 0 (x_geti_e hv5) rfl uw_7 (Nat.le_of_ble_eq_true rfl) rfl ww_594 dX7_writeRow_19 ?_
    refine r_if_le G 27 dX7_writeRow_22 (by decide) hyp (fun c6 hyp => ?_) (fun c6 hyp => ?_)
    · refine r_aload_n G 0 dX7_writeRow_27 rfl rfl ?_
      refine r_iconst (v := 0) G dX7_writeRow_28 (by decide) ?_
      obtain ⟨w7, hw7, hyp⟩ := x_some hyp
      refine r_putv (C := RX7) (T := TX7) (N := 22) (ci := 7) G tyX7 tyX7_ok nmX7 14 hw7 rfl uw_7 (Nat.le_of_ble_eq_true rfl) rfl ww_757 rfl rfl rfl dX7_writeRow_29 ?_
      refine r_iconst (v := 0) G dX7_writeRow_32 (by decide) ?_
      refine r_istore_n (lv' := [(2, .int 0), (0, .ref a0), (1, .int x1)]) G dX7_writeRow_33 rfl (by decide) ⟨fun _ => rfl, fun _ => rfl, trivial⟩ rfl ?_
      refine r_weak (lv' := [(0, .ref a0), (1, .int x1), (2, .int 0)]) [1, 2, 0] rfl ?_
      exact nd_X7_writeRow_L34 G hno xfuel a0 x1 0 w7 hyp
    · refine r_iconst (v := 0) G dX7_writeRow_25 (by decide) ?_
      exact r_iret G hyp rfl (Nat.zero_le _) (Nat.zero_le _) dX7_writeRow_26
  · refine r_iconst (v := 0) G dX7_writeRow_10 (by decide) ?_
    refine r_goto G 15 dX7_writeRow_11 (by decide) ?_
    obtain ⟨w20, hw20, hyp⟩ := x_some hyp
    refine r_putv (C := RX7) (T := TX7) (N := 22) (ci := 7) G tyX7 tyX7_ok nmX7 0 hw20 rfl uw_7 (Nat.le_of_ble_eq_true rfl) rfl ww_594 rfl rfl rfl dX7_writeRow_15 ?_
    refine r_aload_n G 0 dX7_writeRow_18 rfl rfl ?_
    obtain ⟨v21, hv21, hyp⟩ := x_some hyp
    refine r_getv (C := RX7) (T := TX7) (N := 22) (ci := 7) G 0 (x_geti_e hv21) rfl uw_7 (Nat.le_of_ble_eq_true rfl) rfl ww_594 dX7_writeRow_19 ?_
    refine r_if_le G 27 dX7_writeRow_22 (by decide) hyp (fun c22 hyp => ?_) (fun c22 hyp => ?_)
    · refine r_aload_n G 0 dX7_writeRow_27 rfl rfl ?_
      refine r_iconst (v := 0) G dX7_writeRow_28 (by decide) ?_
      obtain ⟨w23, hw23, hyp⟩ := x_some hyp
      refine r_putv (C := RX7) (T := TX7) (N := 22) (ci := 7) G tyX7 tyX7_ok nmX7 14 hw23 rfl uw_7 (Nat.le_of_ble_eq_true rfl) rfl ww_757 rfl rfl rfl dX7_writeRow_29 ?_
      refine r_iconst (v := 0) G dX7_writeRow_32 (by decide) ?_
      refine r_istore_n (lv' := [(2, .int 0), (0, .ref a0), (1, .int x1)]) G dX7_writeRow_33 rfl (by decide) ⟨fun _ => rfl, fun _ => rfl, trivial⟩ rfl ?_
      refine r_weak (lv' := [(0, .ref a0), (1, .int x1), (2, .int 0)]) [1, 2, 0] rfl ?_
      exact nd_X7_writeRow_L34 G hno xfuel a0 x1 0 w23 hyp
    · refine r_iconst (v := 0) G dX7_writeRow_25 (by decide) ?_
      exact r_iret G hyp rfl (Nat.zero_le _) (Nat.zero_le _) dX7_writeRow_26
