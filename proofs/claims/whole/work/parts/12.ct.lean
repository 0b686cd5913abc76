theorem tg_X1_reach : xTgt yX1_reach cX1_reach 3 none 2 := ⟨ww_163, ww_22, by decide, by decide +kernel, by decide +kernel⟩
section
variable {Γ : xG} {p : Program} {l : Launch} {e : Env} {s : State} {m : MethodId} {args : Array Value} {below : List Frame} {meth : Method} {c : Code} {rF : Unit ⊕ String} {wF : xW}
end
set_option maxRecDepth 100000 in
set_option maxHeartbeats 4000000 in
theorem ct_X1_reach {Γ : xG} {l : Launch} (hl : l.stackTraces = false) (a0 : Nat) (x1 : Int32) (x2 : Int32) (w0 : xW) (rF : Unit ⊕ String) (wF : xW) (hyp : f_X1_reach a0 x1 x2 w0 = some (rF, wF)) : xMet Γ l yX1_reach (xws yX1_reach cX1_reach 3 none) 1 xV [.ref a0, .int x1, .int x2] w0 rF wF (x_mc rF) (x_ms rF) := by
  refine xOfW tg_X1_reach hl (lv0 := [(0, .ref a0), (1, .int x1), (2, .int x2)]) (Nat.le_of_ble_eq_true rfl) rfl ?_
  intro p e s m below meth c G hno hin
  rw [f_X1_reach] at hyp
  refine r_iload_n G 1 dX1_reach_0 rfl rfl ?_
  refine r_if_lt G 32 dX1_reach_1 (by decide) hyp (fun c1 hyp => ?_) (fun c1 hyp => ?_)
  · exact r_vret G hyp (Nat.zero_le _) (Nat.zero_le _) dX1_reach_32
  · refine r_iload_n G 1 dX1_reach_4 rfl rfl ?_
    refine r_aload_n G 0 dX1_reach_5 rfl rfl ?_
    obtain ⟨v2, hv2, hyp⟩ := x_some hyp
    refine r_getv (C := RX1) (T := TX1) (N := 6) (ci := 1) G 2 (x_getr_e hv2) rfl uw_1 (Nat.le_of_ble_eq_true rfl) rfl ww_17 dX1_reach_6 ?_
    refine r_ref hyp (fun a3 ha3 hz => ?_)
    clear hyp; subst ha3; have hyp := hz; clear hz
    obtain ⟨v4, hv4, hyp⟩ := x_some hyp
    refine r_len G hv4 dX1_reach_9 ?_
    refine r_icmp_ge G 32 dX1_reach_10 (by decide) hyp (fun c5 hyp => ?_) (fun c5 hyp => ?_)
    · exact r_vret G hyp (Nat.zero_le _) (Nat.zero_le _) dX1_reach_32
    · refine r_aload_n G 0 dX1_reach_13 rfl rfl ?_
      obtain ⟨v6, hv6, hyp⟩ := x_some hyp
      refine r_getv (C := RX1) (T := TX1) (N := 6) (ci := 1) G 4 (x_geti_e hv6) rfl uw_1 (Nat.le_of_ble_eq_true rfl) rfl ww_19 dX1_reach_14 ?_
      refine r_if_lt G 32 dX1_reach_17 (by decide) hyp (fun c7 hyp => ?_) (fun c7 hyp => ?_)
      · exact r_vret G hyp (Nat.zero_le _) (Nat.zero_le _) dX1_reach_32
      · refine r_aload_n G 0 dX1_reach_20 rfl rfl ?_
        obtain ⟨v8, hv8, hyp⟩ := x_some hyp
        refine r_getv (C := RX1) (T := TX1) (N := 6) (ci := 1) G 4 (x_geti_e hv8) rfl uw_1 (Nat.le_of_ble_eq_true rfl) rfl ww_19 dX1_reach_21 ?_
        refine r_aload_n G 0 dX1_reach_24 rfl rfl ?_
        obtain ⟨v9, hv9, hyp⟩ := x_some hyp
        refine r_getv (C := RX1) (T := TX1) (N := 6) (ci := 1) G 3 (x_getr_e hv9) rfl uw_1 (Nat.le_of_ble_eq_true rfl) rfl ww_18 dX1_reach_25 ?_
        refine r_ref hyp (fun a10 ha10 hz => ?_)
        clear hyp; subst ha10; have hyp := hz; clear hz
        obtain ⟨v11, hv11, hyp⟩ := x_some hyp
        refine r_len G hv11 dX1_reach_28 ?_
        refine r_icmp_lt G 33 dX1_reach_29 (by decide) hyp (fun c12 hyp => ?_) (fun c12 hyp => ?_)
        · refine r_aload_n G 0 dX1_reach_33 rfl rfl ?_
          obtain ⟨v13, hv13, hyp⟩ := x_some hyp
          refine r_getv (C := RX1) (T := TX1) (N := 6) (ci := 1) G 2 (x_getr_e hv13) rfl uw_1 (Nat.le_of_ble_eq_true rfl) rfl ww_17 dX1_reach_34 ?_
          refine r_iload_n G 1 dX1_reach_37 rfl rfl ?_
          refine r_ref hyp (fun a14 ha14 hz => ?_)
          clear hyp; subst ha14; have hyp := hz; clear hz
          obtain ⟨v15, hv15, hyp⟩ := x_some hyp
          refine r_zald G hv15 dX1_reach_38 ?_
          refine r_if_ne G 78 dX1_reach_39 (by decide) hyp (fun c16 hyp => ?_) (fun c16 hyp => ?_)
          · exact r_vret G hyp (Nat.zero_le _) (Nat.zero_le _) dX1_reach_78
          · refine r_aload_n G 0 dX1_reach_42 rfl rfl ?_
            refine r_iload_n G 1 dX1_reach_43 rfl rfl ?_
            obtain ⟨o19, hyp⟩ := x_chk hyp
            refine r_callV (ι := xI) (T := TX1) (N := 6) (ci := 1) (b := a0) (rest := []) (As := [.int x1]) G hno tg_X1_toneAt (fun r w' h => ct_X1_toneAt (xhl G) _ _ _ r w' h) o19 hyp rfl ww_160 ww_162 ww_161 (by decide) (by decide) rfl rfl (xroom (Nat.le_of_ble_eq_true rfl)) dX1_reach_44 (push := (fun r18 => [.int r18])) (fun _ => rfl) (fun r18 w17 hyp => ?_)
            refine r_iload_n G 2 dX1_reach_47 rfl rfl ?_
            refine r_icmp_ne G 78 dX1_reach_48 (by decide) hyp (fun c20 hyp => ?_) (fun c20 hyp => ?_)
            · exact r_vret G hyp (Nat.zero_le _) (Nat.zero_le _) dX1_reach_78
            · refine r_aload_n G 0 dX1_reach_51 rfl rfl ?_
              obtain ⟨v21, hv21, hyp⟩ := x_some hyp
              refine r_getv (C := RX1) (T := TX1) (N := 6) (ci := 1) G 2 (x_getr_e hv21) rfl uw_1 (Nat.le_of_ble_eq_true rfl) rfl ww_17 dX1_reach_52 ?_
              refine r_iload_n G 1 dX1_reach_55 rfl rfl ?_
              refine r_iconst (v := 1) G dX1_reach_56 (by decide) ?_
              refine r_ref hyp (fun a22 ha22 hz => ?_)
              clear hyp; subst ha22; have hyp := hz; clear hz
              obtain ⟨w23, hw23, hyp⟩ := x_some hyp
              refine r_zast G hw23 dX1_reach_57 ?_
              refine r_aload_n G 0 dX1_reach_58 rfl rfl ?_
              obtain ⟨v24, hv24, hyp⟩ := x_some hyp
              refine r_getv (C := RX1) (T := TX1) (N := 6) (ci := 1) G 3 (x_getr_e hv24) rfl uw_1 (Nat.le_of_ble_eq_true rfl) rfl ww_18 dX1_reach_59 ?_
              refine r_aload_n G 0 dX1_reach_62 rfl rfl ?_
              obtain ⟨v25, hv25, hyp⟩ := x_some hyp
              refine r_getv (C := RX1) (T := TX1) (N := 6) (ci := 1) G 4 (x_geti_e hv25) rfl uw_1 (Nat.le_of_ble_eq_true rfl) rfl ww_19 dX1_reach_63 ?_
              refine r_iload_n G 1 dX1_reach_66 rfl rfl ?_
              refine r_ref hyp (fun a26 ha26 hz => ?_)
              clear hyp; subst ha26; have hyp := hz; clear hz
              obtain ⟨w27, hw27, hyp⟩ := x_some hyp
              refine r_iast G hw27 dX1_reach_67 ?_
              refine r_aload_n G 0 dX1_reach_68 rfl rfl ?_
              refine r_dup G dX1_reach_69 rfl ?_
              obtain ⟨v28, hv28, hyp⟩ := x_some hyp
              refine r_getv (C := RX1) (T := TX1) (N := 6) (ci := 1) G 4 (x_geti_e hv28) rfl uw_1 (Nat.le_of_ble_eq_true rfl) rfl ww_19 dX1_reach_70 ?_
              refine r_iconst (v := 1) G dX1_reach_73 (by decide) ?_
              refine r_iadd G dX1_reach_74 ?_
              obtain ⟨w29, hw29, hyp⟩ := x_some hyp
              refine r_putv (C := RX1) (T := TX1) (N := 6) (ci := 1) G tyX1 tyX1_ok nmX1 4 hw29 rfl uw_1 (Nat.le_of_ble_eq_true rfl) rfl ww_19 rfl rfl rfl dX1_reach_75 ?_
              exact r_vret G hyp (Nat.zero_le _) (Nat.zero_le _) dX1_reach_78
        · exact r_vret G hyp (Nat.zero_le _) (Nat.zero_le _) dX1_reach_32
theorem tg_X1_fillAreaAt : xTgt yX1_fillAreaAt cX1_fillAreaAt 6 (some .int) 1 := ⟨ww_167, ww_22, by decide, by decide +kernel, by decide +kernel⟩
section
variable {Γ : xG} {p : Program} {l : Launch} {e : Env} {s : State} {m : MethodId} {args : Array Value} {below : List Frame} {meth : Method} {c : Code} {rF : Int32 ⊕ String} {wF : xW}
set_option maxRecDepth 100000 in
set_option maxHeartbeats 4000000 in
theorem nd_X1_fillAreaAt_J81 {k19 : Nat → Int32 → Int32 → xW → xO Int32} (G : xCx Γ p l s m args meth c RX1 cX1_fillAreaAt 6 (some .int)) (hno : ∀ x ∈ c.exceptionTable.toList, False) (hk19 : ∀ (a0 : Nat) (x2 : Int32) (x3 : Int32) (w : xW), k19 a0 x2 x3 w = some (rF, wF) → xAW Γ p l e (xRm 2 (x_mc rF) (x_ms rF)) s m args below meth c 6 (xQm Γ below xI rF wF args s (x_mc rF) (x_ms rF)) w 0 0 19 [(0, .ref a0), (2, .int x2), (3, .int x3)] []) (a0 : Nat) (x2 : Int32) (x3 : Int32) (x4 : Int32) (w0 : xW) (hyp : f_X1_fillAreaAt_J81 k19 a0 x2 x3 x4 w0 = some (rF, wF)) : xAW Γ p l e (xRm 2 (x_mc rF) (x_ms rF)) s m args below meth c 6 (xQm Γ below xI rF wF args s (x_mc rF) (x_ms rF)) w0 0 0 81 [(0, .ref a0), (2, .int x2), (3, .int x3), (4, .int x4)] [] := by
  rw [f_X1_fillAreaAt_J81] at hyp
  refine r_aload_n G 0 dX1_fillAreaAt_81 rfl rfl ?_
  refine r_iload G 3 dX1_fillAreaAt_82 rfl ?_
  refine r_bipush (v := 8) G dX1_fillAreaAt_84 (by decide) ?_
  refine r_isub G dX1_fillAreaAt_86 ?_
  refine r_iload_n G 1 dX1_fillAreaAt_87 rfl rfl ?_
  obtain ⟨o23, hyp⟩ := x_chk hyp
  refine r_callV (ι := xV) (T := TX1) (N := 6) (ci := 1) (b := a0) (rest := []) (As := [.int (x4 - 8), .int x2]) G hno tg_X1_reach (fun r w' h => ct_X1_reach (xhl G) _ _ _ _ r w' h) o23 hyp rfl ww_164 ww_166 ww_165 (by decide) (by decide) rfl rfl (xroom (Nat.le_of_ble_eq_true rfl)) dX1_fillAreaAt_88 (push := (fun _ => [])) (fun _ => rfl) (fun _ w21 hyp => ?_)
  refine r_aload_n G 0 dX1_fillAreaAt_91 rfl rfl ?_
  refine r_iload G 3 dX1_fillAreaAt_92 rfl ?_
  refine r_bipush (v := 8) G dX1_fillAreaAt_94 (by decide) ?_
  refine r_iadd G dX1_fillAreaAt_96 ?_
  refine r_iload_n G 1 dX1_fillAreaAt_97 rfl rfl ?_
  obtain ⟨o26, hyp⟩ := x_chk hyp
  refine r_callV (ι := xV) (T := TX1) (N := 6) (ci := 1) (b := a0) (rest := []) (As := [.int (x4 + 8), .int x2]) G hno tg_X1_reach (fun r w' h => ct_X1_reach (xhl G) _ _ _ _ r w' h) o26 hyp rfl ww_164 ww_166 ww_165 (by decide) (by decide) rfl rfl (xroom (Nat.le_of_ble_eq_true rfl)) dX1_fillAreaAt_98 (push := (fun _ => [])) (fun _ => rfl) (fun _ w24 hyp => ?_)
  refine r_iinc (v := (x3 + 1)) (lv' := [(3, .int (x3 + 1)), (0, .ref a0), (2, .int x2), (4, .int x4)]) G 2 dX1_fillAreaAt_101 rfl rfl (by decide) ⟨fun _ => rfl, fun _ => rfl, fun _ => rfl, fun _ => rfl, trivial⟩ rfl ?_
  refine r_goto G 19 dX1_fillAreaAt_104 (by decide) ?_
  refine r_weak (lv' := [(0, .ref a0), (2, .int x2), (3, .int (x3 + 1))]) [1, 2, 0] rfl ?_
  exact hk19 a0 x2 (x3 + 1) w24 hyp
set_option maxRecDepth 100000 in
set_option maxHeartbeats 4000000 in
theorem nd_X1_fillAreaAt_J65 {k19 : Nat → Int32 → Int32 → xW → xO Int32} (G : xCx Γ p l s m args meth c RX1 cX1_fillAreaAt 6 (some .int)) (hno : ∀ x ∈ c.exceptionTable.toList, False) (hk19 : ∀ (a0 : Nat) (x2 : Int32) (x3 : Int32) (w : xW), k19 a0 x2 x3 w = some (rF, wF) → xAW Γ p l e (xRm 2 (x_mc rF) (x_ms rF)) s m args below meth c 6 (xQm Γ below xI rF wF args s (x_mc rF) (x_ms rF)) w 0 0 19 [(0, .ref a0), (2, .int x2), (3, .int x3)] []) (a0 : Nat) (x2 : Int32) (x3 : Int32) (x4 : Int32) (x5 : Int32) (w0 : xW) (hyp : f_X1_fillAreaAt_J65 k19 a0 x2 x3 x4 x5 w0 = some (rF, wF)) : xAW Γ p l e (xRm 2 (x_mc rF) (x_ms rF)) s m args below meth c 6 (xQm Γ below xI rF wF args s (x_mc rF) (x_ms rF)) w0 0 0 65 [(0, .ref a0), (2, .int x2), (3, .int x3), (4, .int x4), (5, .int x5)] [] := by
  rw [f_X1_fillAreaAt_J65] at hyp
  refine r_iload G 4 dX1_fillAreaAt_65 rfl ?_
  refine r_bipush (v := 7) G dX1_fillAreaAt_67 (by decide) ?_
  refine r_icmp_ge G 81 dX1_fillAreaAt_69 (by decide) hyp (fun c20 hyp => ?_) (fun c20 hyp => ?_)
  · refine r_weak (lv' := [(0, .ref a0), (2, .int x2), (3, .int x3), (4, .int x4)]) [0, 1, 2, 3] rfl ?_
    exact nd_X1_fillAreaAt_J81 G hno hk19 a0 x2 x3 x4 w0 hyp
  · refine r_aload_n G 0 dX1_fillAreaAt_72 rfl rfl ?_
    refine r_iload G 3 dX1_fillAreaAt_73 rfl ?_
    refine r_iconst (v := 1) G dX1_fillAreaAt_75 (by decide) ?_
    refine r_iadd G dX1_fillAreaAt_76 ?_
    refine r_iload_n G 1 dX1_fillAreaAt_77 rfl rfl ?_
    obtain ⟨o29, hyp⟩ := x_chk hyp
    refine r_callV (ι := xV) (T := TX1) (N := 6) (ci := 1) (b := a0) (rest := []) (As := [.int (x4 + 1), .int x2]) G hno tg_X1_reach (fun r w' h => ct_X1_reach (xhl G) _ _ _ _ r w' h) o29 hyp rfl ww_164 ww_166 ww_165 (by decide) (by decide) rfl rfl (xroom (Nat.le_of_ble_eq_true rfl)) dX1_fillAreaAt_78 (push := (fun _ => [])) (fun _ => rfl) (fun _ w27 hyp => ?_)
    refine r_weak (lv' := [(0, .ref a0), (2, .int x2), (3, .int x3), (4, .int x4)]) [0, 1, 2, 3] rfl ?_
    exact nd_X1_fillAreaAt_J81 G hno hk19 a0 x2 x3 x4 w27 hyp
set_option maxRecDepth 100000 in
set_option maxHeartbeats 4000000 in
theorem nd_X1_fillAreaAt_L19 (G : xCx Γ p l s m args meth c RX1 cX1_fillAreaAt 6 (some .int)) (hno : ∀ x ∈ c.exceptionTable.toList, False) : ∀ (n : Nat) (a0 : Nat) (x2 : Int32) (x3 : Int32) (w0 : xW), f_X1_fillAreaAt_L19 n a0 x2 x3 w0 = some (rF, wF) → xAW Γ p l e (xRm 2 (x_mc rF) (x_ms rF)) s m args below meth c 6 (xQm Γ below xI rF wF args s (x_mc rF) (x_ms rF)) w0 0 0 19 [(0, .ref a0), (2, .int x2), (3, .int x3)] [] := by
  intro n
  induction n with
  | zero =>
    intro a0 x2 x3 w0 hyp
    cases (show (none : xO Int32) = some (rF, wF) from hyp)
  | succ n ih =>
    intro a0 x2 x3 w0 hyp
    rw [f_X1_fillAreaAt_L19] at hyp
    refine r_iload_n G 2 dX1_fillAreaAt_19 rfl rfl ?_
    refine r_aload_n G 0 dX1_fillAreaAt_20 rfl rfl ?_
    obtain ⟨v8, hv8, hyp⟩ := x_some hyp
    refine r_getv (C := RX1) (T := TX1) (N := 6) (ci := 1) G 4 (x_geti_e hv8) rfl uw_1 (Nat.le_of_ble_eq_true rfl) rfl ww_19 dX1_fillAreaAt_21 ?_
    refine r_icmp_ge G 107 dX1_fillAreaAt_24 (by decide) hyp (fun c9 hyp => ?_) (fun c9 hyp => ?_)
    · refine r_aload_n G 0 dX1_fillAreaAt_107 rfl rfl ?_
      obtain ⟨v10, hv10, hyp⟩ := x_some hyp
      refine r_getv (C := RX1) (T := TX1) (N := 6) (ci := 1) G 4 (x_geti_e hv10) rfl uw_1 (Nat.le_of_ble_eq_true rfl) rfl ww_19 dX1_fillAreaAt_108 ?_
      exact r_iret G hyp rfl (Nat.zero_le _) (Nat.zero_le _) dX1_fillAreaAt_111
    · refine r_iload_n G 2 dX1_fillAreaAt_27 rfl rfl ?_
      refine r_aload_n G 0 dX1_fillAreaAt_28 rfl rfl ?_
      obtain ⟨v11, hv11, hyp⟩ := x_some hyp
      refine r_getv (C := RX1) (T := TX1) (N := 6) (ci := 1) G 3 (x_getr_e hv11) rfl uw_1 (Nat.le_of_ble_eq_true rfl) rfl ww_18 dX1_fillAreaAt_29 ?_
      refine r_ref hyp (fun a12 ha12 hz => ?_)
      clear hyp; subst ha12; have hyp := hz; clear hz
      obtain ⟨v13, hv13, hyp⟩ := x_some hyp
      refine r_len G hv13 dX1_fillAreaAt_32 ?_
      refine r_icmp_ge G 107 dX1_fillAreaAt_33 (by decide) hyp (fun c14 hyp => ?_) (fun c14 hyp => ?_)
      · refine r_aload_n G 0 dX1_fillAreaAt_107 rfl rfl ?_
        obtain ⟨v15, hv15, hyp⟩ := x_some hyp
        refine r_getv (C := RX1) (T := TX1) (N := 6) (ci := 1) G 4 (x_geti_e hv15) rfl uw_1 (Nat.le_of_ble_eq_true rfl) rfl ww_19 dX1_fillAreaAt_108 ?_
        exact r_iret G hyp rfl (Nat.zero_le _) (Nat.zero_le _) dX1_fillAreaAt_111
      · refine r_aload_n G 0 dX1_fillAreaAt_36 rfl rfl ?_
        obtain ⟨v16, hv16, hyp⟩ := x_some hyp
        refine r_getv (C := RX1) (T := TX1) (N := 6) (ci := 1) G 3 (x_getr_e hv16) rfl uw_1 (Nat.le_of_ble_eq_true rfl) rfl ww_18 dX1_fillAreaAt_37 ?_
        refine r_iload_n G 2 dX1_fillAreaAt_40 rfl rfl ?_
        refine r_ref hyp (fun a17 ha17 hz => ?_)
        clear hyp; subst ha17; have hyp := hz; clear hz
        obtain ⟨v18, hv18, hyp⟩ := x_some hyp
        refine r_iald G hv18 dX1_fillAreaAt_41 ?_
        refine r_istore (lv' := [(4, .int v18), (0, .ref a0), (2, .int x2), (3, .int x3)]) G dX1_fillAreaAt_42 (by decide) ⟨fun _ => rfl, fun _ => rfl, fun _ => rfl, trivial⟩ rfl ?_
        refine r_iload G 0 dX1_fillAreaAt_44 rfl ?_
        refine r_bipush (v := 8) G dX1_fillAreaAt_46 (by decide) ?_
        refine r_irem G dX1_fillAreaAt_48 (by decide) ?_
        refine r_istore (lv' := [(5, .int (v18 - v18 / 8 * 8)), (4, .int v18), (0, .ref a0), (2, .int x2), (3, .int x3)]) G dX1_fillAreaAt_49 (by decide) ⟨fun _ => rfl, fun _ => rfl, fun _ => rfl, fun _ => rfl, trivial⟩ rfl ?_
        refine r_iload G 0 dX1_fillAreaAt_51 rfl ?_
        refine r_if_le G 65 dX1_fillAreaAt_53 (by decide) hyp (fun c19 hyp => ?_) (fun c19 hyp => ?_)
        · refine r_weak (lv' := [(0, .ref a0), (2, .int x2), (3, .int x3), (4, .int v18), (5, .int (v18 - v18 / 8 * 8))]) [2, 3, 4, 1, 0] rfl ?_
          exact nd_X1_fillAreaAt_J65 G hno ih a0 x2 x3 v18 (v18 - v18 / 8 * 8) w0 hyp
        · refine r_aload_n G 2 dX1_fillAreaAt_56 rfl rfl ?_
          refine r_iload G 1 dX1_fillAreaAt_57 rfl ?_
          refine r_iconst (v := 1) G dX1_fillAreaAt_59 (by decide) ?_
          refine r_isub G dX1_fillAreaAt_60 ?_
          refine r_iload_n G 3 dX1_fillAreaAt_61 rfl rfl ?_
          obtain ⟨o32, hyp⟩ := x_chk hyp
          refine r_callV (ι := xV) (T := TX1) (N := 6) (ci := 1) (b := a0) (rest := []) (As := [.int (v18 - 1), .int x2]) G hno tg_X1_reach (fun r w' h => ct_X1_reach (xhl G) _ _ _ _ r w' h) o32 hyp rfl ww_164 ww_166 ww_165 (by decide) (by decide) rfl rfl (xroom (Nat.le_of_ble_eq_true rfl)) dX1_fillAreaAt_62 (push := (fun _ => [])) (fun _ => rfl) (fun _ w30 hyp => ?_)
          refine r_weak (lv' := [(0, .ref a0), (2, .int x2), (3, .int x3), (4, .int v18), (5, .int (v18 - v18 / 8 * 8))]) [2, 3, 4, 1, 0] rfl ?_
          exact nd_X1_fillAreaAt_J65 G hno ih a0 x2 x3 v18 (v18 - v18 / 8 * 8) w30 hyp
end
set_option maxRecDepth 100000 in
set_option maxHeartbeats 4000000 in
theorem ct_X1_fillAreaAt {Γ : xG} {l : Launch} (hl : l.stackTraces = false) (a0 : Nat) (x1 : Int32) (w0 : xW) (rF : Int32 ⊕ String) (wF : xW) (hyp : f_X1_fillAreaAt a0 x1 w0 = some (rF, wF)) : xMet Γ l yX1_fillAreaAt (xws yX1_fillAreaAt cX1_fillAreaAt 6 (some .int)) 2 xI [.ref a0, .int x1] w0 rF wF (x_mc rF) (x_ms rF) := by
  refine xOfW tg_X1_fillAreaAt hl (lv0 := [(0, .ref a0), (1, .int x1)]) (Nat.le_of_ble_eq_true rfl) rfl ?_
  intro p e s m below meth c G hno hin
  rw [f_X1_fillAreaAt] at hyp
  refine r_aload_n G 0 dX1_fillAreaAt_0 rfl rfl ?_
  refine r_iload_n G 1 dX1_fillAreaAt_1 rfl rfl ?_
  obtain ⟨o3, hyp⟩ := x_chk hyp
  refine r_callV (ι := xI) (T := TX1) (N := 6) (ci := 1) (b := a0) (rest := []) (As := [.int x1]) G hno tg_X1_toneAt (fun r w' h => ct_X1_toneAt (xhl G) _ _ _ r w' h) o3 hyp rfl ww_160 ww_162 ww_161 (by decide) (by decide) rfl rfl (xroom (Nat.le_of_ble_eq_true rfl)) dX1_fillAreaAt_2 (push := (fun r2 => [.int r2])) (fun _ => rfl) (fun r2 w1 hyp => ?_)
  refine r_istore_n (lv' := [(2, .int r2), (0, .ref a0), (1, .int x1)]) G dX1_fillAreaAt_5 rfl (by decide) ⟨fun _ => rfl, fun _ => rfl, trivial⟩ rfl ?_
  refine r_aload_n G 1 dX1_fillAreaAt_6 rfl rfl ?_
  refine r_iconst (v := 0) G dX1_fillAreaAt_7 (by decide) ?_
  obtain ⟨w4, hw4, hyp⟩ := x_some hyp
  refine r_putv (C := RX1) (T := TX1) (N := 6) (ci := 1) G tyX1 tyX1_ok nmX1 4 hw4 rfl uw_1 (Nat.le_of_ble_eq_true rfl) rfl ww_19 rfl rfl rfl dX1_fillAreaAt_8 ?_
  refine r_aload_n G 1 dX1_fillAreaAt_11 rfl rfl ?_
  refine r_iload_n G 2 dX1_fillAreaAt_12 rfl rfl ?_
  refine r_iload_n G 0 dX1_fillAreaAt_13 rfl rfl ?_
  obtain ⟨o7, hyp⟩ := x_chk hyp
  refine r_callV (ι := xV) (T := TX1) (N := 6) (ci := 1) (b := a0) (rest := []) (As := [.int x1, .int r2]) G hno tg_X1_reach (fun r w' h => ct_X1_reach (xhl G) _ _ _ _ r w' h) o7 hyp rfl ww_164 ww_166 ww_165 (by decide) (by decide) rfl rfl (xroom (Nat.le_of_ble_eq_true rfl)) dX1_fillAreaAt_14 (push := (fun _ => [])) (fun _ => rfl) (fun _ w5 hyp => ?_)
  refine r_iconst (v := 0) G dX1_fillAreaAt_17 (by decide) ?_
  refine r_istore_n (lv' := [(3, .int 0), (2, .int r2), (0, .ref a0), (1, .int x1)]) G dX1_fillAreaAt_18 rfl (by decide) ⟨fun _ => rfl, fun _ => rfl, fun _ => rfl, trivial⟩ rfl ?_
  refine r_weak (lv' := [(0, .ref a0), (2, .int r2), (3, .int 0)]) [2, 1, 0] rfl ?_
  exact nd_X1_fillAreaAt_L19 G hno xfuel a0 r2 0 w5 hyp
theorem tg_X1_reachNothing : xTgt yX1_reachNothing cX1_reachNothing 2 none 0 := ⟨ww_168, ww_22, by decide, by decide +kernel, by decide +kernel⟩
section
variable {Γ : xG} {p : Program} {l : Launch} {e : Env} {s : State} {m : MethodId} {args : Array Value} {below : List Frame} {meth : Method} {c : Code} {rF : Unit ⊕ String} {wF : xW}
set_option maxRecDepth 100000 in
set_option maxHeartbeats 4000000 in
theorem nd_X1_reachNothing_L2 (G : xCx Γ p l s m args meth c RX1 cX1_reachNothing 2 none) (hno : ∀ x ∈ c.exceptionTable.toList, False) : ∀ (n : Nat) (a0 : Nat) (x1 : Int32) (w0 : xW), f_X1_reachNothing_L2 n a0 x1 w0 = some (rF, wF) → xAW Γ p l e (xRm 0 (x_mc rF) (x_ms rF)) s m args below meth c 2 (xQm Γ below xV rF wF args s (x_mc rF) (x_ms rF)) w0 0 0 2 [(0, .ref a0), (1, .int x1)] [] := by
  intro n
  induction n with
  | zero =>
    intro a0 x1 w0 hyp
    cases (show (none : xO Unit) = some (rF, wF) from hyp)
  | succ n ih =>
    intro a0 x1 w0 hyp
    rw [f_X1_reachNothing_L2] at hyp
    refine r_iload_n G 1 dX1_reachNothing_2 rfl rfl ?_
    refine r_aload_n G 0 dX1_reachNothing_3 rfl rfl ?_
    obtain ⟨v1, hv1, hyp⟩ := x_some hyp
    refine r_getv (C := RX1) (T := TX1) (N := 6) (ci := 1) G 2 (x_getr_e hv1) rfl uw_1 (Nat.le_of_ble_eq_true rfl) rfl ww_17 dX1_reachNothing_4 ?_
    refine r_ref hyp (fun a2 ha2 hz => ?_)
    clear hyp; subst ha2; have hyp := hz; clear hz
    obtain ⟨v3, hv3, hyp⟩ := x_some hyp
    refine r_len G hv3 dX1_reachNothing_7 ?_
    refine r_icmp_ge G 24 dX1_reachNothing_8 (by decide) hyp (fun c4 hyp => ?_) (fun c4 hyp => ?_)
    · exact r_vret G hyp (Nat.zero_le _) (Nat.zero_le _) dX1_reachNothing_24
    · refine r_aload_n G 0 dX1_reachNothing_11 rfl rfl ?_
      obtain ⟨v5, hv5, hyp⟩ := x_some hyp
      refine r_getv (C := RX1) (T := TX1) (N := 6) (ci := 1) G 2 (x_getr_e hv5) rfl uw_1 (Nat.le_of_ble_eq_true rfl) rfl ww_17 dX1_reachNothing_12 ?_
      refine r_iload_n G 1 dX1_reachNothing_15 rfl rfl ?_
      refine r_iconst (v := 0) G dX1_reachNothing_16 (by decide) ?_
      refine r_ref hyp (fun a6 ha6 hz => ?_)
      clear hyp; subst ha6; have hyp := hz; clear hz
      obtain ⟨w7, hw7, hyp⟩ := x_some hyp
      refine r_zast G hw7 dX1_reachNothing_17 ?_
      refine r_iinc (v := (x1 + 1)) (lv' := [(1, .int (x1 + 1)), (0, .ref a0)]) G 1 dX1_reachNothing_18 rfl rfl (by decide) ⟨fun _ => rfl, fun _ => rfl, trivial⟩ rfl ?_
      refine r_goto G 2 dX1_reachNothing_21 (by decide) ?_
      refine r_weak (lv' := [(0, .ref a0), (1, .int (x1 + 1))]) [1, 0] rfl ?_
      exact ih a0 (x1 + 1) w7 hyp
end
set_option maxRecDepth 100000 in
set_option maxHeartbeats 4000000 in
theorem ct_X1_reachNothing {Γ : xG} {l : Launch} (hl : l.stackTraces = false) (a0 : Nat) (w0 : xW) (rF : Unit ⊕ String) (wF : xW) (hyp : f_X1_reachNothing a0 w0 = some (rF, wF)) : xMet Γ l yX1_reachNothing (xws yX1_reachNothing cX1_reachNothing 2 none) 0 xV [.ref a0] w0 rF wF (x_mc rF) (x_ms rF) := by
  refine xOfW tg_X1_reachNothing hl (lv0 := [(0, .ref a0)]) (Nat.le_of_ble_eq_true rfl) rfl ?_
  intro p e s m below meth c G hno hin
  rw [f_X1_reachNothing] at hyp
  refine r_iconst (v := 0) G dX1_reachNothing_0 (by decide) ?_
  refine r_istore_n (lv' := [(1, .int 0), (0, .ref a0)]) G dX1_reachNothing_1 rfl (by decide) ⟨fun _ => rfl, trivial⟩ rfl ?_
  refine r_weak (lv' := [(0, .ref a0), (1, .int 0)]) [1, 0] rfl ?_
  exact nd_X1_reachNothing_L2 G hno xfuel a0 0 w0 hyp
theorem tg_X1_countAreasByFilling : xTgt yX1_countAreasByFilling cX1_countAreasByFilling 3 (some .int) 0 := ⟨ww_175, ww_22, by decide, by decide +kernel, by decide +kernel⟩
section
variable {Γ : xG} {p : Program} {l : Launch} {e : Env} {s : State} {m : MethodId} {args : Array Value} {below : List Frame} {meth : Method} {c : Code} {rF : Int32 ⊕ String} {wF : xW}
set_option maxRecDepth 100000 in
set_option maxHeartbeats 4000000 in
theorem nd_X1_countAreasByFilling_L8 (G : xCx Γ p l s m args meth c RX1 cX1_countAreasByFilling 3 (some .int)) (hno : ∀ x ∈ c.exceptionTable.toList, False) : ∀ (n : Nat) (a0 : Nat) (x1 : Int32) (x2 : Int32) (w0 : xW), f_X1_countAreasByFilling_L8 n a0 x1 x2 w0 = some (rF, wF) → xAW Γ p l e (xRm 3 (x_mc rF) (x_ms rF)) s m args below meth c 3 (xQm Γ below xI rF wF args s (x_mc rF) (x_ms rF)) w0 0 0 8 [(0, .ref a0), (1, .int x1), (2, .int x2)] [] := by
  intro n
  induction n with
  | zero =>
    intro a0 x1 x2 w0 hyp
    cases (show (none : xO Int32) = some (rF, wF) from hyp)
  | succ n ih =>
    intro a0 x1 x2 w0 hyp
    rw [f_X1_countAreasByFilling_L8] at hyp
    refine r_iload_n G 2 dX1_countAreasByFilling_8 rfl rfl ?_
    refine r_bipush (v := 48) G dX1_countAreasByFilling_9 (by decide) ?_
    refine r_icmp_ge G 31 dX1_countAreasByFilling_11 (by decide) hyp (fun c4 hyp => ?_) (fun c4 hyp => ?_)
    · refine r_iload_n G 1 dX1_countAreasByFilling_31 rfl rfl ?_
      exact r_iret G hyp rfl (Nat.zero_le _) (Nat.zero_le _) dX1_countAreasByFilling_32
    · refine r_aload_n G 0 dX1_countAreasByFilling_14 rfl rfl ?_
      refine r_iload_n G 2 dX1_countAreasByFilling_15 rfl rfl ?_
      obtain ⟨o7, hyp⟩ := x_chk hyp
      refine r_callV (ι := xI) (T := TX1) (N := 6) (ci := 1) (b := a0) (rest := []) (As := [.int x2]) G hno tg_X1_fillAreaAt (fun r w' h => ct_X1_fillAreaAt (xhl G) _ _ _ r w' h) o7 hyp rfl ww_172 ww_174 ww_173 (by decide) (by decide) rfl rfl (xroom (Nat.le_of_ble_eq_true rfl)) dX1_countAreasByFilling_16 (push := (fun r6 => [.int r6])) (fun _ => rfl) (fun r6 w5 hyp => ?_)
      refine r_if_le G 25 dX1_countAreasByFilling_19 (by decide) hyp (fun c8 hyp => ?_) (fun c8 hyp => ?_)
      · refine r_iinc (v := (x2 + 1)) (lv' := [(2, .int (x2 + 1)), (0, .ref a0), (1, .int x1)]) G 2 dX1_countAreasByFilling_25 rfl rfl (by decide) ⟨fun _ => rfl, fun _ => rfl, fun _ => rfl, trivial⟩ rfl ?_
        refine r_goto G 8 dX1_countAreasByFilling_28 (by decide) ?_
        refine r_weak (lv' := [(0, .ref a0), (1, .int x1), (2, .int (x2 + 1))]) [1, 2, 0] rfl ?_
        exact ih a0 x1 (x2 + 1) w5 hyp
      · refine r_iinc (v := (x1 + 1)) (lv' := [(1, .int (x1 + 1)), (0, .ref a0), (2, .int x2)]) G 1 dX1_countAreasByFilling_22 rfl rfl (by decide) ⟨fun _ => rfl, fun _ => rfl, fun _ => rfl, trivial⟩ rfl ?_
        refine r_iinc (v := (x2 + 1)) (lv' := [(2, .int (x2 + 1)), (1, .int (x1 + 1)), (0, .ref a0)]) G 2 dX1_countAreasByFilling_25 rfl rfl (by decide) ⟨fun _ => rfl, fun _ => rfl, fun _ => rfl, trivial⟩ rfl ?_
        refine r_goto G 8 dX1_countAreasByFilling_28 (by decide) ?_
        refine r_weak (lv' := [(0, .ref a0), (1, .int (x1 + 1)), (2, .int (x2 + 1))]) [2, 1, 0] rfl ?_
        exact ih a0 (x1 + 1) (x2 + 1) w5 hyp
end
set_option maxRecDepth 100000 in
set_option maxHeartbeats 4000000 in
theorem ct_X1_countAreasByFilling {Γ : xG} {l : Launch} (hl : l.stackTraces = false) (a0 : Nat) (w0 : xW) (rF : Int32 ⊕ String) (wF : xW) (hyp : f_X1_countAreasByFilling a0 w0 = some (rF, wF)) : xMet Γ l yX1_countAreasByFilling (xws yX1_countAreasByFilling cX1_countAreasByFilling 3 (some .int)) 3 xI [.ref a0] w0 rF wF (x_mc rF) (x_ms rF) := by
  refine xOfW tg_X1_countAreasByFilling hl (lv0 := [(0, .ref a0)]) (Nat.le_of_ble_eq_true rfl) rfl ?_
  intro p e s m below meth c G hno hin
  rw [f_X1_countAreasByFilling] at hyp
  refine r_aload_n G 0 dX1_countAreasByFilling_0 rfl rfl ?_
  obtain ⟨o3, hyp⟩ := x_chk hyp
  refine r_callV (ι := xV) (T := TX1) (N := 6) (ci := 1) (b := a0) (rest := []) (As := []) G hno tg_X1_reachNothing (fun r w' h => ct_X1_reachNothing (xhl G) _ _ r w' h) o3 hyp rfl ww_169 ww_171 ww_170 (by decide) (by decide) rfl rfl (xroom (Nat.le_of_ble_eq_true rfl)) dX1_countAreasByFilling_1 (push := (fun _ => [])) (fun _ => rfl) (fun _ w1 hyp => ?_)
  refine r_iconst (v := 0) G dX1_countAreasByFilling_4 (by decide) ?_
  refine r_istore_n (lv' := [(1, .int 0), (0, .ref a0)]) G dX1_countAreasByFilling_5 rfl (by decide) ⟨fun _ => rfl, trivial⟩ rfl ?_
  refine r_iconst (v := 0) G dX1_countAreasByFilling_6 (by decide) ?_
  refine r_istore_n (lv' := [(2, .int 0), (1, .int 0), (0, .ref a0)]) G dX1_countAreasByFilling_7 rfl (by decide) ⟨fun _ => rfl, fun _ => rfl, trivial⟩ rfl ?_
  refine r_weak (lv' := [(0, .ref a0), (1, .int 0), (2, .int 0)]) [2, 1, 0] rfl ?_
  exact nd_X1_countAreasByFilling_L8 G hno xfuel a0 0 0 w1 hyp
theorem tg_X6_areaCount : xTgt yX6_areaCount cX6_areaCount 1 (some .int) 0 := ⟨ww_182, ww_86, by decide, by decide +kernel, by decide +kernel⟩
section
variable {Γ : xG} {p : Program} {l : Launch} {e : Env} {s : State} {m : MethodId} {args : Array Value} {below : List Frame} {meth : Method} {c : Code} {rF : Int32 ⊕ String} {wF : xW}
end
set_option maxRecDepth 100000 in
set_option maxHeartbeats 4000000 in
theorem ct_X6_areaCount {Γ : xG} {l : Launch} (hl : l.stackTraces = false) (a0 : Nat) (w0 : xW) (rF : Int32 ⊕ String) (wF : xW) (hyp : f_X6_areaCount a0 w0 = some (rF, wF)) : xMet Γ l yX6_areaCount (xws yX6_areaCount cX6_areaCount 1 (some .int)) 5 xI [.ref a0] w0 rF wF (x_mc rF) (x_ms rF) := by
  refine xOfW tg_X6_areaCount hl (lv0 := [(0, .ref a0)]) (Nat.le_of_ble_eq_true rfl) rfl ?_
  intro p e s m below meth c G hno hin
  rw [f_X6_areaCount] at hyp
  refine r_aload_n G 0 dX6_areaCount_0 rfl rfl ?_
  obtain ⟨o3, hyp⟩ := x_chk hyp
  refine r_callV (ι := xQ) (T := TX6) (N := 9) (ci := 6) (b := a0) (rest := []) (As := []) G hno tg_X6_flattened (fun r w' h => ct_X6_flattened (xhl G) _ _ r w' h) o3 hyp rfl ww_176 ww_178 ww_177 (by decide) (by decide) rfl rfl (xroom (Nat.le_of_ble_eq_true rfl)) dX6_areaCount_1 (push := (fun r2 => [va_rf r2])) (fun _ => rfl) (fun r2 w1 hyp => ?_)
  refine r_ref hyp (fun a4 ha4 hz => ?_)
  clear hyp; subst ha4; have hyp := hz; clear hz
  obtain ⟨o7, hyp⟩ := x_chk hyp
  refine r_callV (ι := xI) (T := TX1) (N := 6) (ci := 1) (b := a4) (rest := []) (As := []) G hno tg_X1_countAreasByFilling (fun r w' h => ct_X1_countAreasByFilling (xhl G) _ _ r w' h) o7 hyp rfl ww_179 ww_181 ww_180 (by decide) (by decide) rfl rfl (xroom (Nat.le_of_ble_eq_true rfl)) dX6_areaCount_4 (push := (fun r6 => [.int r6])) (fun _ => rfl) (fun r6 w5 hyp => ?_)
  exact r_iret G hyp rfl (Nat.zero_le _) (Nat.zero_le _) dX6_areaCount_7
theorem tg_X1_rootOf : xTgt yX1_rootOf cX1_rootOf 4 (some .int) 1 := ⟨ww_183, ww_22, by decide, by decide +kernel, by decide +kernel⟩
section
variable {Γ : xG} {p : Program} {l : Launch} {e : Env} {s : State} {m : MethodId} {args : Array Value} {below : List Frame} {meth : Method} {c : Code} {rF : Int32 ⊕ String} {wF : xW}
set_option maxRecDepth 100000 in
set_option maxHeartbeats 4000000 in
theorem nd_X1_rootOf_L4 (G : xCx Γ p l s m args meth c RX1 cX1_rootOf 4 (some .int)) (hno : ∀ x ∈ c.exceptionTable.toList, False) : ∀ (n : Nat) (a0 : Nat) (x2 : Int32) (x3 : Int32) (w0 : xW), f_X1_rootOf_L4 n a0 x2 x3 w0 = some (rF, wF) → xAW Γ p l e (xRm 0 (x_mc rF) (x_ms rF)) s m args below meth c 4 (xQm Γ below xI rF wF args s (x_mc rF) (x_ms rF)) w0 0 0 4 [(0, .ref a0), (2, .int x2), (3, .int x3)] [] := by
  intro n
  induction n with
  | zero =>
    intro a0 x2 x3 w0 hyp
    cases (show (none : xO Int32) = some (rF, wF) from hyp)
  | succ n ih =>
    intro a0 x2 x3 w0 hyp
    rw [f_X1_rootOf_L4] at hyp
    refine r_iload_n G 2 dX1_rootOf_4 rfl rfl ?_
    refine r_bipush (v := 48) G dX1_rootOf_5 (by decide) ?_
    refine r_icmp_ge G 48 dX1_rootOf_7 (by decide) hyp (fun c1 hyp => ?_) (fun c1 hyp => ?_)
    · refine r_iload_n G 1 dX1_rootOf_48 rfl rfl ?_
      exact r_iret G hyp rfl (Nat.zero_le _) (Nat.zero_le _) dX1_rootOf_49
    · refine r_iload_n G 1 dX1_rootOf_10 rfl rfl ?_
      refine r_if_lt G 48 dX1_rootOf_11 (by decide) hyp (fun c2 hyp => ?_) (fun c2 hyp => ?_)
      · refine r_iload_n G 1 dX1_rootOf_48 rfl rfl ?_
        exact r_iret G hyp rfl (Nat.zero_le _) (Nat.zero_le _) dX1_rootOf_49
      · refine r_iload_n G 1 dX1_rootOf_14 rfl rfl ?_
        refine r_aload_n G 0 dX1_rootOf_15 rfl rfl ?_
        obtain ⟨v3, hv3, hyp⟩ := x_some hyp
        refine r_getv (C := RX1) (T := TX1) (N := 6) (ci := 1) G 5 (x_getr_e hv3) rfl uw_1 (Nat.le_of_ble_eq_true rfl) rfl ww_20 dX1_rootOf_16 ?_
        refine r_ref hyp (fun a4 ha4 hz => ?_)
        clear hyp; subst ha4; have hyp := hz; clear hz
        obtain ⟨v5, hv5, hyp⟩ := x_some hyp
        refine r_len G hv5 dX1_rootOf_19 ?_
        refine r_icmp_ge G 48 dX1_rootOf_20 (by decide) hyp (fun c6 hyp => ?_) (fun c6 hyp => ?_)
        · refine r_iload_n G 1 dX1_rootOf_48 rfl rfl ?_
          exact r_iret G hyp rfl (Nat.zero_le _) (Nat.zero_le _) dX1_rootOf_49
        · refine r_aload_n G 0 dX1_rootOf_23 rfl rfl ?_
          obtain ⟨v7, hv7, hyp⟩ := x_some hyp
          refine r_getv (C := RX1) (T := TX1) (N := 6) (ci := 1) G 5 (x_getr_e hv7) rfl uw_1 (Nat.le_of_ble_eq_true rfl) rfl ww_20 dX1_rootOf_24 ?_
          refine r_iload_n G 1 dX1_rootOf_27 rfl rfl ?_
          refine r_ref hyp (fun a8 ha8 hz => ?_)
          clear hyp; subst ha8; have hyp := hz; clear hz
          obtain ⟨v9, hv9, hyp⟩ := x_some hyp
          refine r_iald G hv9 dX1_rootOf_28 ?_
          refine r_iload_n G 1 dX1_rootOf_29 rfl rfl ?_
          refine r_icmp_ne G 35 dX1_rootOf_30 (by decide) hyp (fun c10 hyp => ?_) (fun c10 hyp => ?_)
          · refine r_aload_n G 0 dX1_rootOf_35 rfl rfl ?_
            obtain ⟨v11, hv11, hyp⟩ := x_some hyp
            refine r_getv (C := RX1) (T := TX1) (N := 6) (ci := 1) G 5 (x_getr_e hv11) rfl uw_1 (Nat.le_of_ble_eq_true rfl) rfl ww_20 dX1_rootOf_36 ?_
            refine r_iload_n G 1 dX1_rootOf_39 rfl rfl ?_
            refine r_ref hyp (fun a12 ha12 hz => ?_)
            clear hyp; subst ha12; have hyp := hz; clear hz
            obtain ⟨v13, hv13, hyp⟩ := x_some hyp
            refine r_iald G hv13 dX1_rootOf_40 ?_
            refine r_istore_n (lv' := [(2, .int v13), (0, .ref a0), (3, .int x3)]) G dX1_rootOf_41 rfl (by decide) ⟨fun _ => rfl, fun _ => rfl, fun _ => rfl, trivial⟩ rfl ?_
            refine r_iinc (v := (x3 + 1)) (lv' := [(3, .int (x3 + 1)), (2, .int v13), (0, .ref a0)]) G 2 dX1_rootOf_42 rfl rfl (by decide) ⟨fun _ => rfl, fun _ => rfl, fun _ => rfl, trivial⟩ rfl ?_
            refine r_goto G 4 dX1_rootOf_45 (by decide) ?_
            refine r_weak (lv' := [(0, .ref a0), (2, .int v13), (3, .int (x3 + 1))]) [2, 1, 0] rfl ?_
            exact ih a0 v13 (x3 + 1) w0 hyp
          · refine r_iload_n G 1 dX1_rootOf_33 rfl rfl ?_
            exact r_iret G hyp rfl (Nat.zero_le _) (Nat.zero_le _) dX1_rootOf_34
end
set_option maxRecDepth 100000 in
set_option maxHeartbeats 4000000 in
theorem ct_X1_rootOf {Γ : xG} {l : Launch} (hl : l.stackTraces = false) (a0 : Nat) (x1 : Int32) (w0 : xW) (rF : Int32 ⊕ String) (wF : xW) (hyp : f_X1_rootOf a0 x1 w0 = some (rF, wF)) : xMet Γ l yX1_rootOf (xws yX1_rootOf cX1_rootOf 4 (some .int)) 0 xI [.ref a0, .int x1] w0 rF wF (x_mc rF) (x_ms rF) := by
  refine xOfW tg_X1_rootOf hl (lv0 := [(0, .ref a0), (1, .int x1)]) (Nat.le_of_ble_eq_true rfl) rfl ?_
  intro p e s m below meth c G hno hin
  rw [f_X1_rootOf] at hyp
  refine r_iload_n G 1 dX1_rootOf_0 rfl rfl ?_
  refine r_istore_n (lv' := [(2, .int x1), (0, .ref a0), (1, .int x1)]) G dX1_rootOf_1 rfl (by decide) ⟨fun _ => rfl, fun _ => rfl, trivial⟩ rfl ?_
  refine r_iconst (v := 0) G dX1_rootOf_2 (by decide) ?_
  refine r_istore_n (lv' := [(3, .int 0), (2, .int x1), (0, .ref a0), (1, .int x1)]) G dX1_rootOf_3 rfl (by decide) ⟨fun _ => rfl, fun _ => rfl, fun _ => rfl, trivial⟩ rfl ?_
  refine r_weak (lv' := [(0, .ref a0), (2, .int x1), (3, .int 0)]) [2, 1, 0] rfl ?_
  exact nd_X1_rootOf_L4 G hno xfuel a0 x1 0 w0 hyp
theorem tg_X1_joins : xTgt yX1_joins cX1_joins 5 (some .boolean) 2 := ⟨ww_187, ww_22, by decide, by decide +kernel, by decide +kernel⟩
section
variable {Γ : xG} {p : Program} {l : Launch} {e : Env} {s : State} {m : MethodId} {args : Array Value} {below : List Frame} {meth : Method} {c : Code} {rF : Int32 ⊕ String} {wF : xW}
end
set_option maxRecDepth 100000 in
set_option maxHeartbeats 4000000 in
theorem ct_X1_joins {Γ : xG} {l : Launch} (hl : l.stackTraces = false) (a0 : Nat) (x1 : Int32) (x2 : Int32) (w0 : xW) (rF : Int32 ⊕ String) (wF : xW) (hyp : f_X1_joins a0 x1 x2 w0 = some (rF, wF)) : xMet Γ l yX1_joins (xws yX1_joins cX1_joins 5 (some .boolean)) 1 xI [.ref a0, .int x1, .int x2] w0 rF wF (x_mc rF) (x_ms rF) := by
  refine xOfW tg_X1_joins hl (lv0 := [(0, .ref a0), (1, .int x1), (2, .int x2)]) (Nat.le_of_ble_eq_true rfl) rfl ?_
  intro p e s m below meth c G hno hin
  rw [f_X1_joins] at hyp
  refine r_aload_n G 0 dX1_joins_0 rfl rfl ?_
  refine r_iload_n G 1 dX1_joins_1 rfl rfl ?_
  obtain ⟨o3, hyp⟩ := x_chk hyp
  refine r_callV (ι := xI) (T := TX1) (N := 6) (ci := 1) (b := a0) (rest := []) (As := [.int x1]) G hno tg_X1_toneAt (fun r w' h => ct_X1_toneAt (xhl G) _ _ _ r w' h) o3 hyp rfl ww_160 ww_162 ww_161 (by decide) (by decide) rfl rfl (xroom (Nat.le_of_ble_eq_true rfl)) dX1_joins_2 (push := (fun r2 => [.int r2])) (fun _ => rfl) (fun r2 w1 hyp => ?_)
  refine r_aload_n G 0 dX1_joins_5 rfl rfl ?_
  refine r_iload_n G 2 dX1_joins_6 rfl rfl ?_
  obtain ⟨o6, hyp⟩ := x_chk hyp
  refine r_callV (ι := xI) (T := TX1) (N := 6) (ci := 1) (b := a0) (rest := [.int r2]) (As := [.int x2]) G hno tg_X1_toneAt (fun r w' h => ct_X1_toneAt (xhl G) _ _ _ r w' h) o6 hyp rfl ww_160 ww_162 ww_161 (by decide) (by decide) rfl rfl (xroom (Nat.le_of_ble_eq_true rfl)) dX1_joins_7 (push := (fun r5 => [.int r5, .int r2])) (fun _ => rfl) (fun r5 w4 hyp => ?_)
  refine r_icmp_eq G 15 dX1_joins_10 (by decide) hyp (fun c7 hyp => ?_) (fun c7 hyp => ?_)
  · refine r_aload_n G 0 dX1_joins_15 rfl rfl ?_
    refine r_iload_n G 1 dX1_joins_16 rfl rfl ?_
    obtain ⟨o10, hyp⟩ := x_chk hyp
    refine r_callV (ι := xI) (T := TX1) (N := 6) (ci := 1) (b := a0) (rest := []) (As := [.int x1]) G hno tg_X1_rootOf (fun r w' h => ct_X1_rootOf (xhl G) _ _ _ r w' h) o10 hyp rfl ww_184 ww_186 ww_185 (by decide) (by decide) rfl rfl (xroom (Nat.le_of_ble_eq_true rfl)) dX1_joins_17 (push := (fun r9 => [.int r9])) (fun _ => rfl) (fun r9 w8 hyp => ?_)
    refine r_istore_n (lv' := [(3, .int r9), (0, .ref a0), (1, .int x1), (2, .int x2)]) G dX1_joins_20 rfl (by decide) ⟨fun _ => rfl, fun _ => rfl, fun _ => rfl, trivial⟩ rfl ?_
    refine r_aload_n G 1 dX1_joins_21 rfl rfl ?_
    refine r_iload_n G 3 dX1_joins_22 rfl rfl ?_
    obtain ⟨o13, hyp⟩ := x_chk hyp
    refine r_callV (ι := xI) (T := TX1) (N := 6) (ci := 1) (b := a0) (rest := []) (As := [.int x2]) G hno tg_X1_rootOf (fun r w' h => ct_X1_rootOf (xhl G) _ _ _ r w' h) o13 hyp rfl ww_184 ww_186 ww_185 (by decide) (by decide) rfl rfl (xroom (Nat.le_of_ble_eq_true rfl)) dX1_joins_23 (push := (fun r12 => [.int r12])) (fun _ => rfl) (fun r12 w11 hyp => ?_)
    refine r_istore (lv' := [(4, .int r12), (3, .int r9), (0, .ref a0), (1, .int x1), (2, .int x2)]) G dX1_joins_26 (by decide) ⟨fun _ => rfl, fun _ => rfl, fun _ => rfl, fun _ => rfl, trivial⟩ rfl ?_
    refine r_iload_n G 1 dX1_joins_28 rfl rfl ?_
    refine r_iload G 0 dX1_joins_29 rfl ?_
    refine r_icmp_eq G 47 dX1_joins_31 (by decide) hyp (fun c14 hyp => ?_) (fun c14 hyp => ?_)
    · refine r_iconst (v := 0) G dX1_joins_47 (by decide) ?_
      exact r_iret G hyp (by decide) (Nat.zero_le _) (Nat.zero_le _) dX1_joins_48
    · refine r_iload_n G 1 dX1_joins_34 rfl rfl ?_
      refine r_if_lt G 47 dX1_joins_35 (by decide) hyp (fun c15 hyp => ?_) (fun c15 hyp => ?_)
      · refine r_iconst (v := 0) G dX1_joins_47 (by decide) ?_
        exact r_iret G hyp (by decide) (Nat.zero_le _) (Nat.zero_le _) dX1_joins_48
      · refine r_iload_n G 1 dX1_joins_38 rfl rfl ?_
        refine r_aload_n G 2 dX1_joins_39 rfl rfl ?_
        obtain ⟨v16, hv16, hyp⟩ := x_some hyp
        refine r_getv (C := RX1) (T := TX1) (N := 6) (ci := 1) G 5 (x_getr_e hv16) rfl uw_1 (Nat.le_of_ble_eq_true rfl) rfl ww_20 dX1_joins_40 ?_
        refine r_ref hyp (fun a17 ha17 hz => ?_)
        clear hyp; subst ha17; have hyp := hz; clear hz
        obtain ⟨v18, hv18, hyp⟩ := x_some hyp
        refine r_len G hv18 dX1_joins_43 ?_
        refine r_icmp_lt G 49 dX1_joins_44 (by decide) hyp (fun c19 hyp => ?_) (fun c19 hyp => ?_)
        · refine r_aload_n G 2 dX1_joins_49 rfl rfl ?_
          obtain ⟨v20, hv20, hyp⟩ := x_some hyp
          refine r_getv (C := RX1) (T := TX1) (N := 6) (ci := 1) G 5 (x_getr_e hv20) rfl uw_1 (Nat.le_of_ble_eq_true rfl) rfl ww_20 dX1_joins_50 ?_
          refine r_iload_n G 1 dX1_joins_53 rfl rfl ?_
          refine r_iload G 0 dX1_joins_54 rfl ?_
          refine r_ref hyp (fun a21 ha21 hz => ?_)
          clear hyp; subst ha21; have hyp := hz; clear hz
          obtain ⟨w22, hw22, hyp⟩ := x_some hyp
          refine r_iast G hw22 dX1_joins_56 ?_
          refine r_iconst (v := 1) G dX1_joins_57 (by decide) ?_
          exact r_iret G hyp (by decide) (Nat.zero_le _) (Nat.zero_le _) dX1_joins_58
        · refine r_iconst (v := 0) G dX1_joins_47 (by decide) ?_
          exact r_iret G hyp (by decide) (Nat.zero_le _) (Nat.zero_le _) dX1_joins_48
  · refine r_iconst (v := 0) G dX1_joins_13 (by decide) ?_
    exact r_iret G hyp (by decide) (Nat.zero_le _) (Nat.zero_le _) dX1_joins_14
theorem tg_X1_countAreasByJoining : xTgt yX1_countAreasByJoining cX1_countAreasByJoining 3 (some .int) 0 := ⟨ww_191, ww_22, by decide, by decide +kernel, by decide +kernel⟩
section
variable {Γ : xG} {p : Program} {l : Launch} {e : Env} {s : State} {m : MethodId} {args : Array Value} {below : List Frame} {meth : Method} {c : Code} {rF : Int32 ⊕ String} {wF : xW}
set_option maxRecDepth 100000 in
set_option maxHeartbeats 4000000 in
theorem nd_X1_countAreasByJoining_L29 (G : xCx Γ p l s m args meth c RX1 cX1_countAreasByJoining 3 (some .int)) (hno : ∀ x ∈ c.exceptionTable.toList, False) : ∀ (n : Nat) (a0 : Nat) (x1 : Int32) (x2 : Int32) (w0 : xW), f_X1_countAreasByJoining_L29 n a0 x1 x2 w0 = some (rF, wF) → xAW Γ p l e (xRm 2 (x_mc rF) (x_ms rF)) s m args below meth c 3 (xQm Γ below xI rF wF args s (x_mc rF) (x_ms rF)) w0 0 0 29 [(0, .ref a0), (1, .int x1), (2, .int x2)] [] := by
  intro n
  induction n with
  | zero =>
    intro a0 x1 x2 w0 hyp
    cases (show (none : xO Int32) = some (rF, wF) from hyp)
  | succ n ih =>
    intro a0 x1 x2 w0 hyp
    rw [f_X1_countAreasByJoining_L29] at hyp
    refine r_iload_n G 2 dX1_countAreasByJoining_29 rfl rfl ?_
    refine r_bipush (v := 48) G dX1_countAreasByJoining_30 (by decide) ?_
    refine r_icmp_ge G 83 dX1_countAreasByJoining_32 (by decide) hyp (fun c5 hyp => ?_) (fun c5 hyp => ?_)
    · refine r_iload_n G 1 dX1_countAreasByJoining_83 rfl rfl ?_
      exact r_iret G hyp rfl (Nat.zero_le _) (Nat.zero_le _) dX1_countAreasByJoining_84
    · refine r_iload_n G 2 dX1_countAreasByJoining_35 rfl rfl ?_
      refine r_bipush (v := 8) G dX1_countAreasByJoining_36 (by decide) ?_
      refine r_irem G dX1_countAreasByJoining_38 (by decide) ?_
      refine r_if_le G 56 dX1_countAreasByJoining_39 (by decide) hyp (fun c6 hyp => ?_) (fun c6 hyp => ?_)
      · refine r_iload_n G 2 dX1_countAreasByJoining_56 rfl rfl ?_
        refine r_bipush (v := 8) G dX1_countAreasByJoining_57 (by decide) ?_
        refine r_icmp_lt G 77 dX1_countAreasByJoining_59 (by decide) hyp (fun c7 hyp => ?_) (fun c7 hyp => ?_)
        · refine r_iinc (v := (x2 + 1)) (lv' := [(2, .int (x2 + 1)), (0, .ref a0), (1, .int x1)]) G 2 dX1_countAreasByJoining_77 rfl rfl (by decide) ⟨fun _ => rfl, fun _ => rfl, fun _ => rfl, trivial⟩ rfl ?_
          refine r_goto G 29 dX1_countAreasByJoining_80 (by decide) ?_
          refine r_weak (lv' := [(0, .ref a0), (1, .int x1), (2, .int (x2 + 1))]) [1, 2, 0] rfl ?_
          exact ih a0 x1 (x2 + 1) w0 hyp
        · refine r_aload_n G 0 dX1_countAreasByJoining_62 rfl rfl ?_
          refine r_iload_n G 2 dX1_countAreasByJoining_63 rfl rfl ?_
          refine r_iload_n G 2 dX1_countAreasByJoining_64 rfl rfl ?_
          refine r_bipush (v := 8) G dX1_countAreasByJoining_65 (by decide) ?_
          refine r_isub G dX1_countAreasByJoining_67 ?_
          obtain ⟨o10, hyp⟩ := x_chk hyp
          refine r_callV (ι := xI) (T := TX1) (N := 6) (ci := 1) (b := a0) (rest := []) (As := [.int x2, .int (x2 - 8)]) G hno tg_X1_joins (fun r w' h => ct_X1_joins (xhl G) _ _ _ _ r w' h) o10 hyp rfl ww_188 ww_190 ww_189 (by decide) (by decide) rfl rfl (xroom (Nat.le_of_ble_eq_true rfl)) dX1_countAreasByJoining_68 (push := (fun r9 => [.int r9])) (fun _ => rfl) (fun r9 w8 hyp => ?_)
          refine r_if_eq G 77 dX1_countAreasByJoining_71 (by decide) hyp (fun c11 hyp => ?_) (fun c11 hyp => ?_)
          · refine r_iinc (v := (x2 + 1)) (lv' := [(2, .int (x2 + 1)), (0, .ref a0), (1, .int x1)]) G 2 dX1_countAreasByJoining_77 rfl rfl (by decide) ⟨fun _ => rfl, fun _ => rfl, fun _ => rfl, trivial⟩ rfl ?_
            refine r_goto G 29 dX1_countAreasByJoining_80 (by decide) ?_
            refine r_weak (lv' := [(0, .ref a0), (1, .int x1), (2, .int (x2 + 1))]) [1, 2, 0] rfl ?_
            exact ih a0 x1 (x2 + 1) w8 hyp
          · refine r_iinc (v := (x1 + (-1))) (lv' := [(1, .int (x1 + (-1))), (0, .ref a0), (2, .int x2)]) G 1 dX1_countAreasByJoining_74 rfl rfl (by decide) ⟨fun _ => rfl, fun _ => rfl, fun _ => rfl, trivial⟩ rfl ?_
            refine r_iinc (v := (x2 + 1)) (lv' := [(2, .int (x2 + 1)), (1, .int (x1 + (-1))), (0, .ref a0)]) G 2 dX1_countAreasByJoining_77 rfl rfl (by decide) ⟨fun _ => rfl, fun _ => rfl, fun _ => rfl, trivial⟩ rfl ?_
            refine r_goto G 29 dX1_countAreasByJoining_80 (by decide) ?_
            refine r_weak (lv' := [(0, .ref a0), (1, .int (x1 + (-1))), (2, .int (x2 + 1))]) [2, 1, 0] rfl ?_
            exact ih a0 (x1 + (-1)) (x2 + 1) w8 hyp
      · refine r_aload_n G 0 dX1_countAreasByJoining_42 rfl rfl ?_
        refine r_iload_n G 2 dX1_countAreasByJoining_43 rfl rfl ?_
        refine r_iload_n G 2 dX1_countAreasByJoining_44 rfl rfl ?_
        refine r_iconst (v := 1) G dX1_countAreasByJoining_45 (by decide) ?_
        refine r_isub G dX1_countAreasByJoining_46 ?_
        obtain ⟨o14, hyp⟩ := x_chk hyp
        refine r_callV (ι := xI) (T := TX1) (N := 6) (ci := 1) (b := a0) (rest := []) (As := [.int x2, .int (x2 - 1)]) G hno tg_X1_joins (fun r w' h => ct_X1_joins (xhl G) _ _ _ _ r w' h) o14 hyp rfl ww_188 ww_190 ww_189 (by decide) (by decide) rfl rfl (xroom (Nat.le_of_ble_eq_true rfl)) dX1_countAreasByJoining_47 (push := (fun r13 => [.int r13])) (fun _ => rfl) (fun r13 w12 hyp => ?_)
        refine r_if_eq G 56 dX1_countAreasByJoining_50 (by decide) hyp (fun c15 hyp => ?_) (fun c15 hyp => ?_)
        · refine r_iload_n G 2 dX1_countAreasByJoining_56 rfl rfl ?_
          refine r_bipush (v := 8) G dX1_countAreasByJoining_57 (by decide) ?_
          refine r_icmp_lt G 77 dX1_countAreasByJoining_59 (by decide) hyp (fun c16 hyp => ?_) (fun c16 hyp => ?_)
          · refine r_iinc (v := (x2 + 1)) (lv' := [(2, .int (x2 + 1)), (0, .ref a0), (1, .int x1)]) G 2 dX1_countAreasByJoining_77 rfl rfl (by decide) ⟨fun _ => rfl, fun _ => rfl, fun _ => rfl, trivial⟩ rfl ?_
            refine r_goto G 29 dX1_countAreasByJoining_80 (by decide) ?_
            refine r_weak (lv' := [(0, .ref a0), (1, .int x1), (2, .int (x2 + 1))]) [1, 2, 0] rfl ?_
            exact ih a0 x1 (x2 + 1) w12 hyp
          · refine r_aload_n G 0 dX1_countAreasByJoining_62 rfl rfl ?_
            refine r_iload_n G 2 dX1_countAreasByJoining_63 rfl rfl ?_
            refine r_iload_n G 2 dX1_countAreasByJoining_64 rfl rfl ?_
            refine r_bipush (v := 8) G dX1_countAreasByJoining_65 (by decide) ?_
            refine r_isub G dX1_countAreasByJoining_67 ?_
            obtain ⟨o19, hyp⟩ := x_chk hyp
            refine r_callV (ι := xI) (T := TX1) (N := 6) (ci := 1) (b := a0) (rest := []) (As := [.int x2, .int (x2 - 8)]) G hno tg_X1_joins (fun r w' h => ct_X1_joins (xhl G) _ _ _ _ r w' h) o19 hyp rfl ww_188 ww_190 ww_189 (by decide) (by decide) rfl rfl (xroom (Nat.le_of_ble_eq_true rfl)) dX1_countAreasByJoining_68 (push := (fun r18 => [.int r18])) (fun _ => rfl) (fun r18 w17 hyp => ?_)
            refine r_if_eq G 77 dX1_countAreasByJoining_71 (by decide) hyp (fun c20 hyp => ?_) (fun c20 hyp => ?_)
            · refine r_iinc (v := (x2 + 1)) (lv' := [(2, .int (x2 + 1)), (0, .ref a0), (1, .int x1)]) G 2 dX1_countAreasByJoining_77 rfl rfl (by decide) ⟨fun _ => rfl, fun _ => rfl, fun _ => rfl, trivial⟩ rfl ?_
              refine r_goto G 29 dX1_countAreasByJoining_80 (by decide) ?_
              refine r_weak (lv' := [(0, .ref a0), (1, .int x1), (2, .int (x2 + 1))]) [1, 2, 0] rfl ?_
              exact ih a0 x1 (x2 + 1) w17 hyp
            · refine r_iinc (v := (x1 + (-1))) (lv' := [(1, .int (x1 + (-1))), (0, .ref a0), (2, .int x2)]) G 1 dX1_countAreasByJoining_74 rfl rfl (by decide) ⟨fun _ => rfl, fun _ => rfl, fun _ => rfl, trivial⟩ rfl ?_
              refine r_iinc (v := (x2 + 1)) (lv' := [(2, .int (x2 + 1)), (1, .int (x1 + (-1))), (0, .ref a0)]) G 2 dX1_countAreasByJoining_77 rfl rfl (by decide) ⟨fun _ => rfl, fun _ => rfl, fun _ => rfl, trivial⟩ rfl ?_
              refine r_goto G 29 dX1_countAreasByJoining_80 (by decide) ?_
              refine r_weak (lv' := [(0, .ref a0), (1, .int (x1 + (-1))), (2, .int (x2 + 1))]) [2, 1, 0] rfl ?_
              exact ih a0 (x1 + (-1)) (x2 + 1) w17 hyp
        · refine r_iinc (v := (x1 + (-1))) (lv' := [(1, .int (x1 + (-1))), (0, .ref a0), (2, .int x2)]) G 1 dX1_countAreasByJoining_53 rfl rfl (by decide) ⟨fun _ => rfl, fun _ => rfl, fun _ => rfl, trivial⟩ rfl ?_
          refine r_iload_n G 2 dX1_countAreasByJoining_56 rfl rfl ?_
          refine r_bipush (v := 8) G dX1_countAreasByJoining_57 (by decide) ?_
          refine r_icmp_lt G 77 dX1_countAreasByJoining_59 (by decide) hyp (fun c21 hyp => ?_) (fun c21 hyp => ?_)
          · refine r_iinc (v := (x2 + 1)) (lv' := [(2, .int (x2 + 1)), (1, .int (x1 + (-1))), (0, .ref a0)]) G 2 dX1_countAreasByJoining_77 rfl rfl (by decide) ⟨fun _ => rfl, fun _ => rfl, fun _ => rfl, trivial⟩ rfl ?_
            refine r_goto G 29 dX1_countAreasByJoining_80 (by decide) ?_
            refine r_weak (lv' := [(0, .ref a0), (1, .int (x1 + (-1))), (2, .int (x2 + 1))]) [2, 1, 0] rfl ?_
            exact ih a0 (x1 + (-1)) (x2 + 1) w12 hyp
          · refine r_aload_n G 1 dX1_countAreasByJoining_62 rfl rfl ?_
            refine r_iload_n G 2 dX1_countAreasByJoining_63 rfl rfl ?_
            refine r_iload_n G 2 dX1_countAreasByJoining_64 rfl rfl ?_
            refine r_bipush (v := 8) G dX1_countAreasByJoining_65 (by decide) ?_
            refine r_isub G dX1_countAreasByJoining_67 ?_
            obtain ⟨o24, hyp⟩ := x_chk hyp
            refine r_callV (ι := xI) (T := TX1) (N := 6) (ci := 1) (b := a0) (rest := []) (As := [.int x2, .int (x2 - 8)]) G hno tg_X1_joins (fun r w' h => ct_X1_joins (xhl G) _ _ _ _ r w' h) o24 hyp rfl ww_188 ww_190 ww_189 (by decide) (by decide) rfl rfl (xroom (Nat.le_of_ble_eq_true rfl)) dX1_countAreasByJoining_68 (push := (fun r23 => [.int r23])) (fun _ => rfl) (fun r23 w22 hyp => ?_)
            refine r_if_eq G 77 dX1_countAreasByJoining_71 (by decide) hyp (fun c25 hyp => ?_) (fun c25 hyp => ?_)
            · refine r_iinc (v := (x2 + 1)) (lv' := [(2, .int (x2 + 1)), (1, .int (x1 + (-1))), (0, .ref a0)]) G 2 dX1_countAreasByJoining_77 rfl rfl (by decide) ⟨fun _ => rfl, fun _ => rfl, fun _ => rfl, trivial⟩ rfl ?_
              refine r_goto G 29 dX1_countAreasByJoining_80 (by decide) ?_
              refine r_weak (lv' := [(0, .ref a0), (1, .int (x1 + (-1))), (2, .int (x2 + 1))]) [2, 1, 0] rfl ?_
              exact ih a0 (x1 + (-1)) (x2 + 1) w22 hyp
            · refine r_iinc (v := ((x1 + (-1)) + (-1))) (lv' := [(1, .int ((x1 + (-1)) + (-1))), (0, .ref a0), (2, .int x2)]) G 0 dX1_countAreasByJoining_74 rfl rfl (by decide) ⟨fun _ => rfl, fun _ => rfl, fun _ => rfl, trivial⟩ rfl ?_
              refine r_iinc (v := (x2 + 1)) (lv' := [(2, .int (x2 + 1)), (1, .int ((x1 + (-1)) + (-1))), (0, .ref a0)]) G 2 dX1_countAreasByJoining_77 rfl rfl (by decide) ⟨fun _ => rfl, fun _ => rfl, fun _ => rfl, trivial⟩ rfl ?_
              refine r_goto G 29 dX1_countAreasByJoining_80 (by decide) ?_
              refine r_weak (lv' := [(0, .ref a0), (1, .int ((x1 + (-1)) + (-1))), (2, .int (x2 + 1))]) [2, 1, 0] rfl ?_
              exact ih a0 ((x1 + (-1)) + (-1)) (x2 + 1) w22 hyp
set_option maxRecDepth 100000 in
set_option maxHeartbeats 4000000 in
theorem nd_X1_countAreasByJoining_L2 (G : xCx Γ p l s m args meth c RX1 cX1_countAreasByJoining 3 (some .int)) (hno : ∀ x ∈ c.exceptionTable.toList, False) : ∀ (n : Nat) (a0 : Nat) (x1 : Int32) (w0 : xW), f_X1_countAreasByJoining_L2 n a0 x1 w0 = some (rF, wF) → xAW Γ p l e (xRm 2 (x_mc rF) (x_ms rF)) s m args below meth c 3 (xQm Γ below xI rF wF args s (x_mc rF) (x_ms rF)) w0 0 0 2 [(0, .ref a0), (1, .int x1)] [] := by
  intro n
  induction n with
  | zero =>
    intro a0 x1 w0 hyp
    cases (show (none : xO Int32) = some (rF, wF) from hyp)
  | succ n ih =>
    intro a0 x1 w0 hyp
    rw [f_X1_countAreasByJoining_L2] at hyp
    refine r_iload_n G 1 dX1_countAreasByJoining_2 rfl rfl ?_
    refine r_aload_n G 0 dX1_countAreasByJoining_3 rfl rfl ?_
    obtain ⟨v1, hv1, hyp⟩ := x_some hyp
    refine r_getv (C := RX1) (T := TX1) (N := 6) (ci := 1) G 5 (x_getr_e hv1) rfl uw_1 (Nat.le_of_ble_eq_true rfl) rfl ww_20 dX1_countAreasByJoining_4 ?_
    refine r_ref hyp (fun a2 ha2 hz => ?_)
    clear hyp; subst ha2; have hyp := hz; clear hz
    obtain ⟨v3, hv3, hyp⟩ := x_some hyp
    refine r_len G hv3 dX1_countAreasByJoining_7 ?_
    refine r_icmp_ge G 24 dX1_countAreasByJoining_8 (by decide) hyp (fun c4 hyp => ?_) (fun c4 hyp => ?_)
    · refine r_bipush (v := 48) G dX1_countAreasByJoining_24 (by decide) ?_
      refine r_istore_n (lv' := [(1, .int 48), (0, .ref a0)]) G dX1_countAreasByJoining_26 rfl (by decide) ⟨fun _ => rfl, fun _ => rfl, trivial⟩ rfl ?_
      refine r_iconst (v := 0) G dX1_countAreasByJoining_27 (by decide) ?_
      refine r_istore_n (lv' := [(2, .int 0), (1, .int 48), (0, .ref a0)]) G dX1_countAreasByJoining_28 rfl (by decide) ⟨fun _ => rfl, fun _ => rfl, trivial⟩ rfl ?_
      refine r_weak (lv' := [(0, .ref a0), (1, .int 48), (2, .int 0)]) [2, 1, 0] rfl ?_
      exact nd_X1_countAreasByJoining_L29 G hno xfuel a0 48 0 w0 hyp
    · refine r_aload_n G 0 dX1_countAreasByJoining_11 rfl rfl ?_
      obtain ⟨v26, hv26, hyp⟩ := x_some hyp
      refine r_getv (C := RX1) (T := TX1) (N := 6) (ci := 1) G 5 (x_getr_e hv26) rfl uw_1 (Nat.le_of_ble_eq_true rfl) rfl ww_20 dX1_countAreasByJoining_12 ?_
      refine r_iload_n G 1 dX1_countAreasByJoining_15 rfl rfl ?_
      refine r_iload_n G 1 dX1_countAreasByJoining_16 rfl rfl ?_
      refine r_ref hyp (fun a27 ha27 hz => ?_)
      clear hyp; subst ha27; have hyp := hz; clear hz
      obtain ⟨w28, hw28, hyp⟩ := x_some hyp
      refine r_iast G hw28 dX1_countAreasByJoining_17 ?_
      refine r_iinc (v := (x1 + 1)) (lv' := [(1, .int (x1 + 1)), (0, .ref a0)]) G 1 dX1_countAreasByJoining_18 rfl rfl (by decide) ⟨fun _ => rfl, fun _ => rfl, trivial⟩ rfl ?_
      refine r_goto G 2 dX1_countAreasByJoining_21 (by decide) ?_
      refine r_weak (lv' := [(0, .ref a0), (1, .int (x1 + 1))]) [1, 0] rfl ?_
      exact ih a0 (x1 + 1) w28 hyp
end
set_option maxRecDepth 100000 in
set_option maxHeartbeats 4000000 in
theorem ct_X1_countAreasByJoining {Γ : xG} {l : Launch} (hl : l.stackTraces = false) (a0 : Nat) (w0 : xW) (rF : Int32 ⊕ String) (wF : xW) (hyp : f_X1_countAreasByJoining a0 w0 = some (rF, wF)) : xMet Γ l yX1_countAreasByJoining (xws yX1_countAreasByJoining cX1_countAreasByJoining 3 (some .int)) 2 xI [.ref a0] w0 rF wF (x_mc rF) (x_ms rF) := by
  refine xOfW tg_X1_countAreasByJoining hl (lv0 := [(0, .ref a0)]) (Nat.le_of_ble_eq_true rfl) rfl ?_
  intro p e s m below meth c G hno hin
  rw [f_X1_countAreasByJoining] at hyp
  refine r_iconst (v := 0) G dX1_countAreasByJoining_0 (by decide) ?_
  refine r_istore_n (lv' := [(1, .int 0), (0, .ref a0)]) G dX1_countAreasByJoining_1 rfl (by decide) ⟨fun _ => rfl, trivial⟩ rfl ?_
  refine r_weak (lv' := [(0, .ref a0), (1, .int 0)]) [1, 0] rfl ?_
  exact nd_X1_countAreasByJoining_L2 G hno xfuel a0 0 w0 hyp
theorem tg_X6_areaCountByJoining : xTgt yX6_areaCountByJoining cX6_areaCountByJoining 1 (some .int) 0 := ⟨ww_195, ww_86, by decide, by decide +kernel, by decide +kernel⟩
section
variable {Γ : xG} {p : Program} {l : Launch} {e : Env} {s : State} {m : MethodId} {args : Array Value} {below : List Frame} {meth : Method} {c : Code} {rF : Int32 ⊕ String} {wF : xW}
end
set_option maxRecDepth 100000 in
set_option maxHeartbeats 4000000 in
theorem ct_X6_areaCountByJoining {Γ : xG} {l : Launch} (hl : l.stackTraces = false) (a0 : Nat) (w0 : xW) (rF : Int32 ⊕ String) (wF : xW) (hyp : f_X6_areaCountByJoining a0 w0 = some (rF, wF)) : xMet Γ l yX6_areaCountByJoining (xws yX6_areaCountByJoining cX6_areaCountByJoining 1 (some .int)) 5 xI [.ref a0] w0 rF wF (x_mc rF) (x_ms rF) := by
  refine xOfW tg_X6_areaCountByJoining hl (lv0 := [(0, .ref a0)]) (Nat.le_of_ble_eq_true rfl) rfl ?_
  intro p e s m below meth c G hno hin
  rw [f_X6_areaCountByJoining] at hyp
  refine r_aload_n G 0 dX6_areaCountByJoining_0 rfl rfl ?_
  obtain ⟨o3, hyp⟩ := x_chk hyp
  refine r_callV (ι := xQ) (T := TX6) (N := 9) (ci := 6) (b := a0) (rest := []) (As := []) G hno tg_X6_flattened (fun r w' h => ct_X6_flattened (xhl G) _ _ r w' h) o3 hyp rfl ww_176 ww_178 ww_177 (by decide) (by decide) rfl rfl (xroom (Nat.le_of_ble_eq_true rfl)) dX6_areaCountByJoining_1 (push := (fun r2 => [va_rf r2])) (fun _ => rfl) (fun r2 w1 hyp => ?_)
  refine r_ref hyp (fun a4 ha4 hz => ?_)
  clear hyp; subst ha4; have hyp := hz; clear hz
  obtain ⟨o7, hyp⟩ := x_chk hyp
  refine r_callV (ι := xI) (T := TX1) (N := 6) (ci := 1) (b := a4) (rest := []) (As := []) G hno tg_X1_countAreasByJoining (fun r w' h => ct_X1_countAreasByJoining (xhl G) _ _ r w' h) o7 hyp rfl ww_192 ww_194 ww_193 (by decide) (by decide) rfl rfl (xroom (Nat.le_of_ble_eq_true rfl)) dX6_areaCountByJoining_4 (push := (fun r6 => [.int r6])) (fun _ => rfl) (fun r6 w5 hyp => ?_)
  exact r_iret G hyp rfl (Nat.zero_le _) (Nat.zero_le _) dX6_areaCountByJoining_7
theorem tg_X6_cellNumber : xTgt yX6_cellNumber cX6_cellNumber 2 (some .int) 2 := ⟨ww_196, ww_86, by decide, by decide +kernel, by decide +kernel⟩
section
variable {Γ : xG} {p : Program} {l : Launch} {e : Env} {s : State} {m : MethodId} {args : Array Value} {below : List Frame} {meth : Method} {c : Code} {rF : Int32 ⊕ String} {wF : xW}
end
set_option maxRecDepth 100000 in
set_option maxHeartbeats 4000000 in
theorem ct_X6_cellNumber {Γ : xG} {l : Launch} (hl : l.stackTraces = false) (x0 : Int32) (x1 : Int32) (w0 : xW) (rF : Int32 ⊕ String) (wF : xW) (hyp : f_X6_cellNumber x0 x1 w0 = some (rF, wF)) : xMet Γ l yX6_cellNumber (xws yX6_cellNumber cX6_cellNumber 2 (some .int)) 0 xI [.int x0, .int x1] w0 rF wF (x_mc rF) (x_ms rF) := by
  refine xOfW tg_X6_cellNumber hl (lv0 := [(0, .int x0), (1, .int x1)]) (Nat.le_of_ble_eq_true rfl) rfl ?_
  intro p e s m below meth c G hno hin
  rw [f_X6_cellNumber] at hyp
  refine r_iload_n G 1 dX6_cellNumber_0 rfl rfl ?_
  refine r_bipush (v := 8) G dX6_cellNumber_1 (by decide) ?_
  refine r_imul G dX6_cellNumber_3 ?_
  refine r_iload_n G 0 dX6_cellNumber_4 rfl rfl ?_
  refine r_iadd G dX6_cellNumber_5 ?_
  exact r_iret G hyp rfl (Nat.zero_le _) (Nat.zero_le _) dX6_cellNumber_6
theorem tg_X6_isCell : xTgt yX6_isCell cX6_isCell 2 (some .boolean) 2 := ⟨ww_197, ww_86, by decide, by decide +kernel, by decide +kernel⟩
section
variable {Γ : xG} {p : Program} {l : Launch} {e : Env} {s : State} {m : MethodId} {args : Array Value} {below : List Frame} {meth : Method} {c : Code} {rF : Int32 ⊕ String} {wF : xW}
end
set_option maxRecDepth 100000 in
set_option maxHeartbeats 4000000 in
theorem ct_X6_isCell {Γ : xG} {l : Launch} (hl : l.stackTraces = false) (x0 : Int32) (x1 : Int32) (w0 : xW) (rF : Int32 ⊕ String) (wF : xW) (hyp : f_X6_isCell x0 x1 w0 = some (rF, wF)) : xMet Γ l yX6_isCell (xws yX6_isCell cX6_isCell 2 (some .boolean)) 0 xI [.int x0, .int x1] w0 rF wF (x_mc rF) (x_ms rF) := by
  refine xOfW tg_X6_isCell hl (lv0 := [(0, .int x0), (1, .int x1)]) (Nat.le_of_ble_eq_true rfl) rfl ?_
  intro p e s m below meth c G hno hin
  rw [f_X6_isCell] at hyp
  refine r_iload_n G 0 dX6_isCell_0 rfl rfl ?_
  refine r_if_lt G 24 dX6_isCell_1 (by decide) hyp (fun c1 hyp => ?_) (fun c1 hyp => ?_)
  · refine r_iconst (v := 0) G dX6_isCell_24 (by decide) ?_
    exact r_iret G hyp (by decide) (Nat.zero_le _) (Nat.zero_le _) dX6_isCell_25
  · refine r_iload_n G 0 dX6_isCell_4 rfl rfl ?_
    refine r_bipush (v := 8) G dX6_isCell_5 (by decide) ?_
    refine r_icmp_ge G 24 dX6_isCell_7 (by decide) hyp (fun c2 hyp => ?_) (fun c2 hyp => ?_)
    · refine r_iconst (v := 0) G dX6_isCell_24 (by decide) ?_
      exact r_iret G hyp (by decide) (Nat.zero_le _) (Nat.zero_le _) dX6_isCell_25
    · refine r_iload_n G 1 dX6_isCell_10 rfl rfl ?_
      refine r_if_lt G 24 dX6_isCell_11 (by decide) hyp (fun c3 hyp => ?_) (fun c3 hyp => ?_)
      · refine r_iconst (v := 0) G dX6_isCell_24 (by decide) ?_
        exact r_iret G hyp (by decide) (Nat.zero_le _) (Nat.zero_le _) dX6_isCell_25
      · refine r_iload_n G 1 dX6_isCell_14 rfl rfl ?_
        refine r_bipush (v := 6) G dX6_isCell_15 (by decide) ?_
        refine r_icmp_ge G 24 dX6_isCell_17 (by decide) hyp (fun c4 hyp => ?_) (fun c4 hyp => ?_)
        · refine r_iconst (v := 0) G dX6_isCell_24 (by decide) ?_
          exact r_iret G hyp (by decide) (Nat.zero_le _) (Nat.zero_le _) dX6_isCell_25
        · refine r_iconst (v := 1) G dX6_isCell_20 (by decide) ?_
          refine r_goto G 25 dX6_isCell_21 (by decide) ?_
          exact r_iret G hyp (by decide) (Nat.zero_le _) (Nat.zero_le _) dX6_isCell_25
theorem tg_X6_existingCell : xTgt yX6_existingCell cX6_existingCell 2 (some .int) 2 := ⟨ww_202, ww_86, by decide, by decide +kernel, by decide +kernel⟩
section
variable {Γ : xG} {p : Program} {l : Launch} {e : Env} {s : State} {m : MethodId} {args : Array Value} {below : List Frame} {meth : Method} {c : Code} {rF : Int32 ⊕ String} {wF : xW}
end
set_option maxRecDepth 100000 in
set_option maxHeartbeats 4000000 in
theorem ct_X6_existingCell {Γ : xG} {l : Launch} (hl : l.stackTraces = false) (x0 : Int32) (x1 : Int32) (w0 : xW) (rF : Int32 ⊕ String) (wF : xW) (hyp : f_X6_existingCell x0 x1 w0 = some (rF, wF)) : xMet Γ l yX6_existingCell (xws yX6_existingCell cX6_existingCell 2 (some .int)) 6 xI [.int x0, .int x1] w0 rF wF (x_mc rF) (x_ms rF) := by
  refine xOfW tg_X6_existingCell hl (lv0 := [(0, .int x0), (1, .int x1)]) (Nat.le_of_ble_eq_true rfl) rfl ?_
  intro p e s m below meth c G hno hin
  rw [f_X6_existingCell] at hyp
  refine r_iload_n G 0 dX6_existingCell_0 rfl rfl ?_
  refine r_iload_n G 1 dX6_existingCell_1 rfl rfl ?_
  refine r_callS (ι := xI) (rest := []) (As := [.int x0, .int x1]) G hno tg_X6_isCell (fun r w' h => ct_X6_isCell (xhl G) _ _ _ r w' h) hyp ww_198 ww_199 (by decide) (by decide) rfl rfl (xroom (Nat.le_of_ble_eq_true rfl)) dX6_existingCell_2 (push := (fun r2 => [.int r2])) (fun _ => rfl) (fun r2 w1 hyp => ?_)
  refine r_if_ne G 18 dX6_existingCell_5 (by decide) hyp (fun c3 hyp => ?_) (fun c3 hyp => ?_)
  · refine r_iload_n G 0 dX6_existingCell_18 rfl rfl ?_
    refine r_iload_n G 1 dX6_existingCell_19 rfl rfl ?_
    refine r_callS (ι := xI) (rest := []) (As := [.int x0, .int x1]) G hno tg_X6_cellNumber (fun r w' h => ct_X6_cellNumber (xhl G) _ _ _ r w' h) hyp ww_200 ww_201 (by decide) (by decide) rfl rfl (xroom (Nat.le_of_ble_eq_true rfl)) dX6_existingCell_20 (push := (fun r5 => [.int r5])) (fun _ => rfl) (fun r5 w4 hyp => ?_)
    exact r_iret G hyp rfl (Nat.zero_le _) (Nat.zero_le _) dX6_existingCell_23
  · exact r_throw 11 G hno hyp th_RX6_89 lit_11 (by decide) dX6_existingCell_8 dX6_existingCell_11 dX6_existingCell_12 dX6_existingCell_14 dX6_existingCell_17
theorem tg_X1_sizeOfAreaAt : xTgt yX1_sizeOfAreaAt cX1_sizeOfAreaAt 2 (some .int) 1 := ⟨ww_203, ww_22, by decide, by decide +kernel, by decide +kernel⟩
section
variable {Γ : xG} {p : Program} {l : Launch} {e : Env} {s : State} {m : MethodId} {args : Array Value} {below : List Frame} {meth : Method} {c : Code} {rF : Int32 ⊕ String} {wF : xW}
end
set_option maxRecDepth 100000 in
set_option maxHeartbeats 4000000 in
theorem ct_X1_sizeOfAreaAt {Γ : xG} {l : Launch} (hl : l.stackTraces = false) (a0 : Nat) (x1 : Int32) (w0 : xW) (rF : Int32 ⊕ String) (wF : xW) (hyp : f_X1_sizeOfAreaAt a0 x1 w0 = some (rF, wF)) : xMet Γ l yX1_sizeOfAreaAt (xws yX1_sizeOfAreaAt cX1_sizeOfAreaAt 2 (some .int)) 3 xI [.ref a0, .int x1] w0 rF wF (x_mc rF) (x_ms rF) := by
  refine xOfW tg_X1_sizeOfAreaAt hl (lv0 := [(0, .ref a0), (1, .int x1)]) (Nat.le_of_ble_eq_true rfl) rfl ?_
  intro p e s m below meth c G hno hin
  rw [f_X1_sizeOfAreaAt] at hyp
  refine r_aload_n G 0 dX1_sizeOfAreaAt_0 rfl rfl ?_
  obtain ⟨o3, hyp⟩ := x_chk hyp
  refine r_callV (ι := xV) (T := TX1) (N := 6) (ci := 1) (b := a0) (rest := []) (As := []) G hno tg_X1_reachNothing (fun r w' h => ct_X1_reachNothing (xhl G) _ _ r w' h) o3 hyp rfl ww_169 ww_171 ww_170 (by decide) (by decide) rfl rfl (xroom (Nat.le_of_ble_eq_true rfl)) dX1_sizeOfAreaAt_1 (push := (fun _ => [])) (fun _ => rfl) (fun _ w1 hyp => ?_)
  refine r_aload_n G 0 dX1_sizeOfAreaAt_4 rfl rfl ?_
  refine r_iload_n G 1 dX1_sizeOfAreaAt_5 rfl rfl ?_
  obtain ⟨o6, hyp⟩ := x_chk hyp
  refine r_callV (ι := xI) (T := TX1) (N := 6) (ci := 1) (b := a0) (rest := []) (As := [.int x1]) G hno tg_X1_fillAreaAt (fun r w' h => ct_X1_fillAreaAt (xhl G) _ _ _ r w' h) o6 hyp rfl ww_172 ww_174 ww_173 (by decide) (by decide) rfl rfl (xroom (Nat.le_of_ble_eq_true rfl)) dX1_sizeOfAreaAt_6 (push := (fun r5 => [.int r5])) (fun _ => rfl) (fun r5 w4 hyp => ?_)
  exact r_iret G hyp rfl (Nat.zero_le _) (Nat.zero_le _) dX1_sizeOfAreaAt_9
theorem tg_X6_areaSize : xTgt yX6_areaSize cX6_areaSize 3 (some .int) 2 := ⟨ww_209, ww_86, by decide, by decide +kernel, by decide +kernel⟩
section
variable {Γ : xG} {p : Program} {l : Launch} {e : Env} {s : State} {m : MethodId} {args : Array Value} {below : List Frame} {meth : Method} {c : Code} {rF : Int32 ⊕ String} {wF : xW}
end
set_option maxRecDepth 100000 in
set_option maxHeartbeats 4000000 in
theorem ct_X6_areaSize {Γ : xG} {l : Launch} (hl : l.stackTraces = false) (a0 : Nat) (x1 : Int32) (x2 : Int32) (w0 : xW) (rF : Int32 ⊕ String) (wF : xW) (hyp : f_X6_areaSize a0 x1 x2 w0 = some (rF, wF)) : xMet Γ l yX6_areaSize (xws yX6_areaSize cX6_areaSize 3 (some .int)) 7 xI [.ref a0, .int x1, .int x2] w0 rF wF (x_mc rF) (x_ms rF) := by
  refine xOfW tg_X6_areaSize hl (lv0 := [(0, .ref a0), (1, .int x1), (2, .int x2)]) (Nat.le_of_ble_eq_true rfl) rfl ?_
  intro p e s m below meth c G hno hin
  rw [f_X6_areaSize] at hyp
  refine r_aload_n G 0 dX6_areaSize_0 rfl rfl ?_
  obtain ⟨o3, hyp⟩ := x_chk hyp
  refine r_callV (ι := xQ) (T := TX6) (N := 9) (ci := 6) (b := a0) (rest := []) (As := []) G hno tg_X6_flattened (fun r w' h => ct_X6_flattened (xhl G) _ _ r w' h) o3 hyp rfl ww_176 ww_178 ww_177 (by decide) (by decide) rfl rfl (xroom (Nat.le_of_ble_eq_true rfl)) dX6_areaSize_1 (push := (fun r2 => [va_rf r2])) (fun _ => rfl) (fun r2 w1 hyp => ?_)
  refine r_iload_n G 1 dX6_areaSize_4 rfl rfl ?_
  refine r_iload_n G 2 dX6_areaSize_5 rfl rfl ?_
  refine r_callS (ι := xI) (rest := [va_rf r2]) (As := [.int x1, .int x2]) G hno tg_X6_existingCell (fun r w' h => ct_X6_existingCell (xhl G) _ _ _ r w' h) hyp ww_204 ww_205 (by decide) (by decide) rfl rfl (xroom (Nat.le_of_ble_eq_true rfl)) dX6_areaSize_6 (push := (fun r5 => [.int r5, va_rf r2])) (fun _ => rfl) (fun r5 w4 hyp => ?_)
  refine r_ref hyp (fun a6 ha6 hz => ?_)
  clear hyp; subst ha6; have hyp := hz; clear hz
  obtain ⟨o9, hyp⟩ := x_chk hyp
  refine r_callV (ι := xI) (T := TX1) (N := 6) (ci := 1) (b := a6) (rest := []) (As := [.int r5]) G hno tg_X1_sizeOfAreaAt (fun r w' h => ct_X1_sizeOfAreaAt (xhl G) _ _ _ r w' h) o9 hyp rfl ww_206 ww_208 ww_207 (by decide) (by decide) rfl rfl (xroom (Nat.le_of_ble_eq_true rfl)) dX6_areaSize_9 (push := (fun r8 => [.int r8])) (fun _ => rfl) (fun r8 w7 hyp => ?_)
  exact r_iret G hyp rfl (Nat.zero_le _) (Nat.zero_le _) dX6_areaSize_12
theorem tg_X1_countCellsUnlike : xTgt yX1_countCellsUnlike cX1_countCellsUnlike 4 (some .int) 1 := ⟨ww_210, ww_22, by decide, by decide +kernel, by decide +kernel⟩
section
variable {Γ : xG} {p : Program} {l : Launch} {e : Env} {s : State} {m : MethodId} {args : Array Value} {below : List Frame} {meth : Method} {c : Code} {rF : Int32 ⊕ String} {wF : xW}
set_option maxRecDepth 100000 in
set_option maxHeartbeats 4000000 in
theorem nd_X1_countCellsUnlike_L4 (G : xCx Γ p l s m args meth c RX1 cX1_countCellsUnlike 4 (some .int)) (hno : ∀ x ∈ c.exceptionTable.toList, False) : ∀ (n : Nat) (a0 : Nat) (x1 : Option Nat) (x2 : Int32) (x3 : Int32) (w0 : xW), f_X1_countCellsUnlike_L4 n a0 x1 x2 x3 w0 = some (rF, wF) → xAW Γ p l e (xRm 3 (x_mc rF) (x_ms rF)) s m args below meth c 4 (xQm Γ below xI rF wF args s (x_mc rF) (x_ms rF)) w0 0 0 4 [(0, .ref a0), (1, va_rf x1), (2, .int x2), (3, .int x3)] [] := by
  intro n
  induction n with
  | zero =>
    intro a0 x1 x2 x3 w0 hyp
    cases (show (none : xO Int32) = some (rF, wF) from hyp)
  | succ n ih =>
    intro a0 x1 x2 x3 w0 hyp
    rw [f_X1_countCellsUnlike_L4] at hyp
    refine r_iload_n G 3 dX1_countCellsUnlike_4 rfl rfl ?_
    refine r_aload_n G 0 dX1_countCellsUnlike_5 rfl rfl ?_
    obtain ⟨v1, hv1, hyp⟩ := x_some hyp
    refine r_getv (C := RX1) (T := TX1) (N := 6) (ci := 1) G 0 (x_getr_e hv1) rfl uw_1 (Nat.le_of_ble_eq_true rfl) rfl ww_14 dX1_countCellsUnlike_6 ?_
    refine r_ref hyp (fun a2 ha2 hz => ?_)
    clear hyp; subst ha2; have hyp := hz; clear hz
    obtain ⟨v3, hv3, hyp⟩ := x_some hyp
    refine r_len G hv3 dX1_countCellsUnlike_9 ?_
    refine r_icmp_ge G 37 dX1_countCellsUnlike_10 (by decide) hyp (fun c4 hyp => ?_) (fun c4 hyp => ?_)
    · refine r_iload_n G 2 dX1_countCellsUnlike_37 rfl rfl ?_
      exact r_iret G hyp rfl (Nat.zero_le _) (Nat.zero_le _) dX1_countCellsUnlike_38
    · refine r_aload_n G 0 dX1_countCellsUnlike_13 rfl rfl ?_
      obtain ⟨v5, hv5, hyp⟩ := x_some hyp
      refine r_getv (C := RX1) (T := TX1) (N := 6) (ci := 1) G 0 (x_getr_e hv5) rfl uw_1 (Nat.le_of_ble_eq_true rfl) rfl ww_14 dX1_countCellsUnlike_14 ?_
      refine r_iload_n G 3 dX1_countCellsUnlike_17 rfl rfl ?_
      refine r_ref hyp (fun a6 ha6 hz => ?_)
      clear hyp; subst ha6; have hyp := hz; clear hz
      obtain ⟨v7, hv7, hyp⟩ := x_some hyp
      refine r_iald G hv7 dX1_countCellsUnlike_18 ?_
      refine r_aload_nq G 1 dX1_countCellsUnlike_19 rfl rfl ?_
      refine r_iconst (v := 0) G dX1_countCellsUnlike_20 (by decide) ?_
      refine r_iload_n G 3 dX1_countCellsUnlike_21 rfl rfl ?_
      refine r_ref hyp (fun a8 ha8 hz => ?_)
      clear hyp; subst ha8; have hyp := hz; clear hz
      obtain ⟨o11, hyp⟩ := x_chk hyp
      refine r_callV (ι := xI) (T := TX4) (N := 4) (ci := 4) (b := a8) (rest := [.int v7]) (As := [.int 0, .int x3]) G hno tg_X4_toneFrom (fun r w' h => ct_X4_toneFrom (xhl G) _ _ _ _ r w' h) o11 hyp rfl ww_151 ww_153 ww_152 (by decide) (by decide) rfl rfl (xroom (Nat.le_of_ble_eq_true rfl)) dX1_countCellsUnlike_22 (push := (fun r10 => [.int r10, .int v7])) (fun _ => rfl) (fun r10 w9 hyp => ?_)
      refine r_icmp_eq G 31 dX1_countCellsUnlike_25 (by decide) hyp (fun c12 hyp => ?_) (fun c12 hyp => ?_)
      · refine r_iinc (v := (x3 + 1)) (lv' := [(3, .int (x3 + 1)), (0, .ref a0), (1, .ref a8), (2, .int x2)]) G 3 dX1_countCellsUnlike_31 rfl rfl (by decide) ⟨fun _ => rfl, fun _ => rfl, fun _ => rfl, fun _ => rfl, trivial⟩ rfl ?_
        refine r_goto G 4 dX1_countCellsUnlike_34 (by decide) ?_
        refine r_weak (lv' := [(0, .ref a0), (1, .ref a8), (2, .int x2), (3, .int (x3 + 1))]) [1, 2, 3, 0] rfl ?_
        exact ih a0 (some a8) x2 (x3 + 1) w9 hyp
      · refine r_iinc (v := (x2 + 1)) (lv' := [(2, .int (x2 + 1)), (0, .ref a0), (1, .ref a8), (3, .int x3)]) G 2 dX1_countCellsUnlike_28 rfl rfl (by decide) ⟨fun _ => rfl, fun _ => rfl, fun _ => rfl, fun _ => rfl, trivial⟩ rfl ?_
        refine r_iinc (v := (x3 + 1)) (lv' := [(3, .int (x3 + 1)), (2, .int (x2 + 1)), (0, .ref a0), (1, .ref a8)]) G 3 dX1_countCellsUnlike_31 rfl rfl (by decide) ⟨fun _ => rfl, fun _ => rfl, fun _ => rfl, fun _ => rfl, trivial⟩ rfl ?_
        refine r_goto G 4 dX1_countCellsUnlike_34 (by decide) ?_
        refine r_weak (lv' := [(0, .ref a0), (1, .ref a8), (2, .int (x2 + 1)), (3, .int (x3 + 1))]) [2, 3, 1, 0] rfl ?_
        exact ih a0 (some a8) (x2 + 1) (x3 + 1) w9 hyp
end
set_option maxRecDepth 100000 in
set_option maxHeartbeats 4000000 in
theorem ct_X1_countCellsUnlike {Γ : xG} {l : Launch} (hl : l.stackTraces = false) (a0 : Nat) (x1 : Option Nat) (w0 : xW) (rF : Int32 ⊕ String) (wF : xW) (hyp : f_X1_countCellsUnlike a0 x1 w0 = some (rF, wF)) : xMet Γ l yX1_countCellsUnlike (xws yX1_countCellsUnlike cX1_countCellsUnlike 4 (some .int)) 3 xI [.ref a0, va_rf x1] w0 rF wF (x_mc rF) (x_ms rF) := by
  refine xOfW tg_X1_countCellsUnlike hl (lv0 := [(0, .ref a0), (1, va_rf x1)]) (by cases x1 <;> exact Nat.le_of_ble_eq_true rfl) (by cases x1 <;> rfl) ?_
  intro p e s m below meth c G hno hin
  rw [f_X1_countCellsUnlike] at hyp
  refine r_iconst (v := 0) G dX1_countCellsUnlike_0 (by decide) ?_
  refine r_istore_n (lv' := [(2, .int 0), (0, .ref a0), (1, va_rf x1)]) G dX1_countCellsUnlike_1 rfl (by decide) ⟨fun _ => rfl, fun _ => xcq _, trivial⟩ rfl ?_
  refine r_iconst (v := 0) G dX1_countCellsUnlike_2 (by decide) ?_
  refine r_istore_n (lv' := [(3, .int 0), (2, .int 0), (0, .ref a0), (1, va_rf x1)]) G dX1_countCellsUnlike_3 rfl (by decide) ⟨fun _ => rfl, fun _ => rfl, fun _ => xcq _, trivial⟩ rfl ?_
  refine r_weak (lv' := [(0, .ref a0), (1, va_rf x1), (2, .int 0), (3, .int 0)]) [2, 3, 1, 0] rfl ?_
  exact nd_X1_countCellsUnlike_L4 G hno xfuel a0 x1 0 0 w0 hyp
theorem tg_X4_shift : xTgt yX4_shift cX4_shift 5 none 2 := ⟨ww_211, ww_40, by decide, by decide +kernel, by decide +kernel⟩
section
variable {Γ : xG} {p : Program} {l : Launch} {e : Env} {s : State} {m : MethodId} {args : Array Value} {below : List Frame} {meth : Method} {c : Code} {rF : Unit ⊕ String} {wF : xW}
set_option maxRecDepth 100000 in
set_option maxHeartbeats 4000000 in
theorem nd_X4_shift_L53 (G : xCx Γ p l s m args meth c RX4 cX4_shift 5 none) (hno : ∀ x ∈ c.exceptionTable.toList, False) : ∀ (n : Nat) (a0 : Nat) (x2 : Int32) (x3 : Option Nat) (x4 : Int32) (w0 : xW), f_X4_shift_L53 n a0 x2 x3 x4 w0 = some (rF, wF) → xAW Γ p l e (xRm 1 (x_mc rF) (x_ms rF)) s m args below meth c 5 (xQm Γ below xV rF wF args s (x_mc rF) (x_ms rF)) w0 0 0 53 [(0, .ref a0), (2, .int x2), (3, va_rf x3), (4, .int x4)] [] := by
  intro n
  induction n with
  | zero =>
    intro a0 x2 x3 x4 w0 hyp
    cases (show (none : xO Unit) = some (rF, wF) from hyp)
  | succ n ih =>
    intro a0 x2 x3 x4 w0 hyp
    rw [f_X4_shift_L53] at hyp
    refine r_iload G 3 dX4_shift_53 rfl ?_
    refine r_iload_n G 1 dX4_shift_55 rfl rfl ?_
    refine r_icmp_le G 81 dX4_shift_56 (by decide) hyp (fun c10 hyp => ?_) (fun c10 hyp => ?_)
    · refine r_aload_n G 0 dX4_shift_81 rfl rfl ?_
      obtain ⟨v11, hv11, hyp⟩ := x_some hyp
      refine r_getv (C := RX4) (T := TX4) (N := 4) (ci := 4) G 0 (x_getr_e hv11) rfl uw_4 (Nat.le_of_ble_eq_true rfl) rfl ww_31 dX4_shift_82 ?_
      refine r_iload_n G 1 dX4_shift_85 rfl rfl ?_
      refine r_aload_nq G 2 dX4_shift_86 rfl rfl ?_
      refine r_ref hyp (fun a12 ha12 hz => ?_)
      clear hyp; subst ha12; have hyp := hz; clear hz
      refine r_ref hyp (fun a13 ha13 hz => ?_)
      clear hyp; subst ha13; have hyp := hz; clear hz
      obtain ⟨w14, hw14, hyp⟩ := x_some hyp
      refine r_aast G 3 (Or.inl rfl) hw14 dX4_shift_87 ?_
      exact r_vret G hyp (Nat.zero_le _) (Nat.zero_le _) dX4_shift_88
    · refine r_aload_n G 0 dX4_shift_59 rfl rfl ?_
      obtain ⟨v15, hv15, hyp⟩ := x_some hyp
      refine r_getv (C := RX4) (T := TX4) (N := 4) (ci := 4) G 0 (x_getr_e hv15) rfl uw_4 (Nat.le_of_ble_eq_true rfl) rfl ww_31 dX4_shift_60 ?_
      refine r_iload G 3 dX4_shift_63 rfl ?_
      refine r_aload_n G 0 dX4_shift_65 rfl rfl ?_
      obtain ⟨v16, hv16, hyp⟩ := x_some hyp
      refine r_getv (C := RX4) (T := TX4) (N := 4) (ci := 4) G 0 (x_getr_e hv16) rfl uw_4 (Nat.le_of_ble_eq_true rfl) rfl ww_31 dX4_shift_66 ?_
      refine r_iload G 3 dX4_shift_69 rfl ?_
      refine r_iconst (v := 1) G dX4_shift_71 (by decide) ?_
      refine r_isub G dX4_shift_72 ?_
      refine r_ref hyp (fun a17 ha17 hz => ?_)
      clear hyp; subst ha17; have hyp := hz; clear hz
      obtain ⟨v18, hv18, hyp⟩ := x_some hyp
      refine r_aald G 3 rfl (by decide) hv18 dX4_shift_73 ?_
      refine r_ref hyp (fun a19 ha19 hz => ?_)
      clear hyp; subst ha19; have hyp := hz; clear hz
      refine r_ref hyp (fun a20 ha20 hz => ?_)
      clear hyp; subst ha20; have hyp := hz; clear hz
      obtain ⟨w21, hw21, hyp⟩ := x_some hyp
      refine r_aast G 3 (Or.inl rfl) hw21 dX4_shift_74 ?_
      refine r_iinc (v := (x4 + (-1))) (lv' := [(4, .int (x4 + (-1))), (0, .ref a0), (2, .int x2), (3, va_rf x3)]) G 3 dX4_shift_75 rfl rfl (by decide) ⟨fun _ => rfl, fun _ => rfl, fun _ => xcq _, fun _ => rfl, trivial⟩ rfl ?_
      refine r_goto G 53 dX4_shift_78 (by decide) ?_
      refine r_weak (lv' := [(0, .ref a0), (2, .int x2), (3, va_rf x3), (4, .int (x4 + (-1)))]) [1, 2, 3, 0] rfl ?_
      exact ih a0 x2 x3 (x4 + (-1)) w21 hyp
set_option maxRecDepth 100000 in
set_option maxHeartbeats 4000000 in
theorem nd_X4_shift_L22 (G : xCx Γ p l s m args meth c RX4 cX4_shift 5 none) (hno : ∀ x ∈ c.exceptionTable.toList, False) : ∀ (n : Nat) (a0 : Nat) (x1 : Int32) (x2 : Int32) (x3 : Option Nat) (x4 : Int32) (w0 : xW), f_X4_shift_L22 n a0 x1 x2 x3 x4 w0 = some (rF, wF) → xAW Γ p l e (xRm 1 (x_mc rF) (x_ms rF)) s m args below meth c 5 (xQm Γ below xV rF wF args s (x_mc rF) (x_ms rF)) w0 0 0 22 [(0, .ref a0), (1, .int x1), (2, .int x2), (3, va_rf x3), (4, .int x4)] [] := by
  intro n
  induction n with
  | zero =>
    intro a0 x1 x2 x3 x4 w0 hyp
    cases (show (none : xO Unit) = some (rF, wF) from hyp)
  | succ n ih =>
    intro a0 x1 x2 x3 x4 w0 hyp
    rw [f_X4_shift_L22] at hyp
    refine r_iload G 4 dX4_shift_22 rfl ?_
    refine r_iload_n G 2 dX4_shift_24 rfl rfl ?_
    refine r_icmp_ge G 50 dX4_shift_25 (by decide) hyp (fun c9 hyp => ?_) (fun c9 hyp => ?_)
    · refine r_iload_n G 1 dX4_shift_50 rfl rfl ?_
      refine r_istore (lv' := [(4, .int x1), (0, .ref a0), (1, .int x1), (2, .int x2), (3, va_rf x3)]) G dX4_shift_51 (by decide) ⟨fun _ => rfl, fun _ => rfl, fun _ => rfl, fun _ => xcq _, fun _ => rfl, trivial⟩ rfl ?_
      refine r_weak (lv' := [(0, .ref a0), (2, .int x2), (3, va_rf x3), (4, .int x1)]) [1, 3, 4, 0] rfl ?_
      exact nd_X4_shift_L53 G hno xfuel a0 x2 x3 x1 w0 hyp
    · refine r_aload_n G 0 dX4_shift_28 rfl rfl ?_
      obtain ⟨v22, hv22, hyp⟩ := x_some hyp
      refine r_getv (C := RX4) (T := TX4) (N := 4) (ci := 4) G 0 (x_getr_e hv22) rfl uw_4 (Nat.le_of_ble_eq_true rfl) rfl ww_31 dX4_shift_29 ?_
      refine r_iload G 4 dX4_shift_32 rfl ?_
      refine r_aload_n G 0 dX4_shift_34 rfl rfl ?_
      obtain ⟨v23, hv23, hyp⟩ := x_some hyp
      refine r_getv (C := RX4) (T := TX4) (N := 4) (ci := 4) G 0 (x_getr_e hv23) rfl uw_4 (Nat.le_of_ble_eq_true rfl) rfl ww_31 dX4_shift_35 ?_
      refine r_iload G 4 dX4_shift_38 rfl ?_
      refine r_iconst (v := 1) G dX4_shift_40 (by decide) ?_
      refine r_iadd G dX4_shift_41 ?_
      refine r_ref hyp (fun a24 ha24 hz => ?_)
      clear hyp; subst ha24; have hyp := hz; clear hz
      obtain ⟨v25, hv25, hyp⟩ := x_some hyp
      refine r_aald G 3 rfl (by decide) hv25 dX4_shift_42 ?_
      refine r_ref hyp (fun a26 ha26 hz => ?_)
      clear hyp; subst ha26; have hyp := hz; clear hz
      refine r_ref hyp (fun a27 ha27 hz => ?_)
      clear hyp; subst ha27; have hyp := hz; clear hz
      obtain ⟨w28, hw28, hyp⟩ := x_some hyp
      refine r_aast G 3 (Or.inl rfl) hw28 dX4_shift_43 ?_
      refine r_iinc (v := (x4 + 1)) (lv' := [(4, .int (x4 + 1)), (0, .ref a0), (1, .int x1), (2, .int x2), (3, va_rf x3)]) G 4 dX4_shift_44 rfl rfl (by decide) ⟨fun _ => rfl, fun _ => rfl, fun _ => rfl, fun _ => xcq _, fun _ => rfl, trivial⟩ rfl ?_
      refine r_goto G 22 dX4_shift_47 (by decide) ?_
      refine r_weak (lv' := [(0, .ref a0), (1, .int x1), (2, .int x2), (3, va_rf x3), (4, .int (x4 + 1))]) [1, 2, 3, 4, 0] rfl ?_
      exact ih a0 x1 x2 x3 (x4 + 1) w28 hyp
end
set_option maxRecDepth 100000 in
set_option maxHeartbeats 4000000 in
theorem ct_X4_shift {Γ : xG} {l : Launch} (hl : l.stackTraces = false) (a0 : Nat) (x1 : Int32) (x2 : Int32) (w0 : xW) (rF : Unit ⊕ String) (wF : xW) (hyp : f_X4_shift a0 x1 x2 w0 = some (rF, wF)) : xMet Γ l yX4_shift (xws yX4_shift cX4_shift 5 none) 1 xV [.ref a0, .int x1, .int x2] w0 rF wF (x_mc rF) (x_ms rF) := by
  refine xOfW tg_X4_shift hl (lv0 := [(0, .ref a0), (1, .int x1), (2, .int x2)]) (Nat.le_of_ble_eq_true rfl) rfl ?_
  intro p e s m below meth c G hno hin
  rw [f_X4_shift] at hyp
  refine r_aload_n G 0 dX4_shift_0 rfl rfl ?_
  refine r_iload_n G 1 dX4_shift_1 rfl rfl ?_
  obtain ⟨o3, hyp⟩ := x_chk hyp
  refine r_callV (ι := xQ) (T := TX4) (N := 4) (ci := 4) (b := a0) (rest := []) (As := [.int x1]) G hno tg_X4_at (fun r w' h => ct_X4_at (xhl G) _ _ _ r w' h) o3 hyp rfl ww_99 ww_101 ww_100 (by decide) (by decide) rfl rfl (xroom (Nat.le_of_ble_eq_true rfl)) dX4_shift_2 (push := (fun r2 => [va_rf r2])) (fun _ => rfl) (fun r2 w1 hyp => ?_)
  refine r_astore_nq (lv' := [(3, va_rf r2), (0, .ref a0), (1, .int x1), (2, .int x2)]) G dX4_shift_5 rfl (by decide) ⟨fun _ => rfl, fun _ => rfl, fun _ => rfl, trivial⟩ rfl ?_
  refine r_aload_nq G 0 dX4_shift_6 rfl rfl ?_
  refine r_ifnull G 18 dX4_shift_7 (by decide) hyp (fun hyp => ?_) (fun a4 ha4 hz => ?_)
  · exact r_vret G hyp (Nat.zero_le _) (Nat.zero_le _) dX4_shift_18
  · clear hyp; subst ha4; have hyp := hz; clear hz
    refine r_aload_n G 1 dX4_shift_10 rfl rfl ?_
    refine r_iload_n G 3 dX4_shift_11 rfl rfl ?_
    obtain ⟨o7, hyp⟩ := x_chk hyp
    refine r_callV (ι := xQ) (T := TX4) (N := 4) (ci := 4) (b := a0) (rest := []) (As := [.int x2]) G hno tg_X4_at (fun r w' h => ct_X4_at (xhl G) _ _ _ r w' h) o7 hyp rfl ww_99 ww_101 ww_100 (by decide) (by decide) rfl rfl (xroom (Nat.le_of_ble_eq_true rfl)) dX4_shift_12 (push := (fun r6 => [va_rf r6])) (fun _ => rfl) (fun r6 w5 hyp => ?_)
    refine r_ifnonnull G 19 dX4_shift_15 (by decide) hyp (fun a8 ha8 hz => ?_) (fun hyp => ?_)
    · clear hyp; subst ha8; have hyp := hz; clear hz
      refine r_iload_n G 2 dX4_shift_19 rfl rfl ?_
      refine r_istore (lv' := [(4, .int x1), (3, .ref a4), (0, .ref a0), (1, .int x1), (2, .int x2)]) G dX4_shift_20 (by decide) ⟨fun _ => rfl, fun _ => rfl, fun _ => rfl, fun _ => rfl, trivial⟩ rfl ?_
      refine r_weak (lv' := [(0, .ref a0), (1, .int x1), (2, .int x2), (3, .ref a4), (4, .int x1)]) [2, 3, 4, 1, 0] rfl ?_
      exact nd_X4_shift_L22 G hno xfuel a0 x1 x2 (some a4) x1 w5 hyp
    · exact r_vret G hyp (Nat.zero_le _) (Nat.zero_le _) dX4_shift_18
theorem tg_X6_moveAndCompare : xTgt yX6_moveAndCompare cX6_moveAndCompare 3 (some .int) 2 := ⟨ww_219, ww_86, by decide, by decide +kernel, by decide +kernel⟩
section
variable {Γ : xG} {p : Program} {l : Launch} {e : Env} {s : State} {m : MethodId} {args : Array Value} {below : List Frame} {meth : Method} {c : Code} {rF : Int32 ⊕ String} {wF : xW}
end
set_option maxRecDepth 100000 in
set_option maxHeartbeats 4000000 in
theorem ct_X6_moveAndCompare {Γ : xG} {l : Launch} (hl : l.stackTraces = false) (a0 : Nat) (x1 : Int32) (x2 : Int32) (w0 : xW) (rF : Int32 ⊕ String) (wF : xW) (hyp : f_X6_moveAndCompare a0 x1 x2 w0 = some (rF, wF)) : xMet Γ l yX6_moveAndCompare (xws yX6_moveAndCompare cX6_moveAndCompare 3 (some .int)) 4 xI [.ref a0, .int x1, .int x2] w0 rF wF (x_mc rF) (x_ms rF) := by
  refine xOfW tg_X6_moveAndCompare hl (lv0 := [(0, .ref a0), (1, .int x1), (2, .int x2)]) (Nat.le_of_ble_eq_true rfl) rfl ?_
  intro p e s m below meth c G hno hin
  rw [f_X6_moveAndCompare] at hyp
  refine r_aload_n G 0 dX6_moveAndCompare_0 rfl rfl ?_
  obtain ⟨v1, hv1, hyp⟩ := x_some hyp
  refine r_getv (C := RX6) (T := TX6) (N := 9) (ci := 6) G 0 (x_getr_e hv1) rfl uw_6 (Nat.le_of_ble_eq_true rfl) rfl ww_60 dX6_moveAndCompare_1 ?_
  refine r_iload_n G 1 dX6_moveAndCompare_4 rfl rfl ?_
  refine r_ref hyp (fun a2 ha2 hz => ?_)
  clear hyp; subst ha2; have hyp := hz; clear hz
  obtain ⟨o5, hyp⟩ := x_chk hyp
  refine r_callV (ι := xQ) (T := TX4) (N := 4) (ci := 4) (b := a2) (rest := []) (As := [.int x1]) G hno tg_X4_at (fun r w' h => ct_X4_at (xhl G) _ _ _ r w' h) o5 hyp rfl ww_212 ww_101 ww_100 (by decide) (by decide) rfl rfl (xroom (Nat.le_of_ble_eq_true rfl)) dX6_moveAndCompare_5 (push := (fun r4 => [va_rf r4])) (fun _ => rfl) (fun r4 w3 hyp => ?_)
  refine r_ifnull G 22 dX6_moveAndCompare_8 (by decide) hyp (fun hyp => ?_) (fun a6 ha6 hz => ?_)
  · refine r_bipush (v := (-2)) G dX6_moveAndCompare_22 (by decide) ?_
    exact r_iret G hyp rfl (Nat.zero_le _) (Nat.zero_le _) dX6_moveAndCompare_24
  · clear hyp; subst ha6; have hyp := hz; clear hz
    refine r_aload_n G 0 dX6_moveAndCompare_11 rfl rfl ?_
    obtain ⟨v7, hv7, hyp⟩ := x_some hyp
    refine r_getv (C := RX6) (T := TX6) (N := 9) (ci := 6) G 0 (x_getr_e hv7) rfl uw_6 (Nat.le_of_ble_eq_true rfl) rfl ww_60 dX6_moveAndCompare_12 ?_
    refine r_iload_n G 2 dX6_moveAndCompare_15 rfl rfl ?_
    refine r_ref hyp (fun a8 ha8 hz => ?_)
    clear hyp; subst ha8; have hyp := hz; clear hz
    obtain ⟨o11, hyp⟩ := x_chk hyp
    refine r_callV (ι := xQ) (T := TX4) (N := 4) (ci := 4) (b := a8) (rest := []) (As := [.int x2]) G hno tg_X4_at (fun r w' h => ct_X4_at (xhl G) _ _ _ r w' h) o11 hyp rfl ww_212 ww_101 ww_100 (by decide) (by decide) rfl rfl (xroom (Nat.le_of_ble_eq_true rfl)) dX6_moveAndCompare_16 (push := (fun r10 => [va_rf r10])) (fun _ => rfl) (fun r10 w9 hyp => ?_)
    refine r_ifnonnull G 25 dX6_moveAndCompare_19 (by decide) hyp (fun a12 ha12 hz => ?_) (fun hyp => ?_)
    · clear hyp; subst ha12; have hyp := hz; clear hz
      refine r_aload_n G 0 dX6_moveAndCompare_25 rfl rfl ?_
      obtain ⟨v13, hv13, hyp⟩ := x_some hyp
      refine r_getv (C := RX6) (T := TX6) (N := 9) (ci := 6) G 4 (x_getr_e hv13) rfl uw_6 (Nat.le_of_ble_eq_true rfl) rfl ww_72 dX6_moveAndCompare_26 ?_
      refine r_aload_n G 0 dX6_moveAndCompare_29 rfl rfl ?_
      obtain ⟨v14, hv14, hyp⟩ := x_some hyp
      refine r_getv (C := RX6) (T := TX6) (N := 9) (ci := 6) G 0 (x_getr_e hv14) rfl uw_6 (Nat.le_of_ble_eq_true rfl) rfl ww_60 dX6_moveAndCompare_30 ?_
      refine r_ref hyp (fun a15 ha15 hz => ?_)
      clear hyp; subst ha15; have hyp := hz; clear hz
      obtain ⟨o18, hyp⟩ := x_chk hyp
      refine r_callV (ι := xV) (T := TX1) (N := 6) (ci := 1) (b := a15) (rest := []) (As := [va_rf v14]) G hno tg_X1_flatten (fun r w' h => ct_X1_flatten (xhl G) _ _ _ r w' h) o18 hyp rfl ww_155 ww_157 ww_156 (by decide) (by decide) rfl rfl (xroom (Nat.le_of_ble_eq_true rfl)) dX6_moveAndCompare_33 (push := (fun _ => [])) (fun _ => rfl) (fun _ w16 hyp => ?_)
      refine r_aload_n G 0 dX6_moveAndCompare_36 rfl rfl ?_
      obtain ⟨v19, hv19, hyp⟩ := x_some hyp
      refine r_getv (C := RX6) (T := TX6) (N := 9) (ci := 6) G 0 (x_getr_e hv19) rfl uw_6 (Nat.le_of_ble_eq_true rfl) rfl ww_60 dX6_moveAndCompare_37 ?_
      refine r_iload_n G 1 dX6_moveAndCompare_40 rfl rfl ?_
      refine r_iload_n G 2 dX6_moveAndCompare_41 rfl rfl ?_
      refine r_ref hyp (fun a20 ha20 hz => ?_)
      clear hyp; subst ha20; have hyp := hz; clear hz
      obtain ⟨o23, hyp⟩ := x_chk hyp
      refine r_callV (ι := xV) (T := TX4) (N := 4) (ci := 4) (b := a20) (rest := []) (As := [.int x1, .int x2]) G hno tg_X4_shift (fun r w' h => ct_X4_shift (xhl G) _ _ _ _ r w' h) o23 hyp rfl ww_213 ww_215 ww_214 (by decide) (by decide) rfl rfl (xroom (Nat.le_of_ble_eq_true rfl)) dX6_moveAndCompare_42 (push := (fun _ => [])) (fun _ => rfl) (fun _ w21 hyp => ?_)
      refine r_aload_n G 0 dX6_moveAndCompare_45 rfl rfl ?_
      obtain ⟨v24, hv24, hyp⟩ := x_some hyp
      refine r_getv (C := RX6) (T := TX6) (N := 9) (ci := 6) G 4 (x_getr_e hv24) rfl uw_6 (Nat.le_of_ble_eq_true rfl) rfl ww_72 dX6_moveAndCompare_46 ?_
      refine r_aload_n G 0 dX6_moveAndCompare_49 rfl rfl ?_
      obtain ⟨v25, hv25, hyp⟩ := x_some hyp
      refine r_getv (C := RX6) (T := TX6) (N := 9) (ci := 6) G 0 (x_getr_e hv25) rfl uw_6 (Nat.le_of_ble_eq_true rfl) rfl ww_60 dX6_moveAndCompare_50 ?_
      refine r_ref hyp (fun a26 ha26 hz => ?_)
      clear hyp; subst ha26; have hyp := hz; clear hz
      obtain ⟨o29, hyp⟩ := x_chk hyp
      refine r_callV (ι := xI) (T := TX1) (N := 6) (ci := 1) (b := a26) (rest := []) (As := [va_rf v25]) G hno tg_X1_countCellsUnlike (fun r w' h => ct_X1_countCellsUnlike (xhl G) _ _ _ r w' h) o29 hyp rfl ww_216 ww_218 ww_217 (by decide) (by decide) rfl rfl (xroom (Nat.le_of_ble_eq_true rfl)) dX6_moveAndCompare_53 (push := (fun r28 => [.int r28])) (fun _ => rfl) (fun r28 w27 hyp => ?_)
      exact r_iret G hyp rfl (Nat.zero_le _) (Nat.zero_le _) dX6_moveAndCompare_56
    · refine r_bipush (v := (-2)) G dX6_moveAndCompare_22 (by decide) ?_
      exact r_iret G hyp rfl (Nat.zero_le _) (Nat.zero_le _) dX6_moveAndCompare_24
theorem tg_X0_number : xTgt yX0_number cX0_number 2 (some .int) 1 := ⟨ww_220, ww_12, by decide, by decide +kernel, by decide +kernel⟩
section
variable {Γ : xG} {p : Program} {l : Launch} {e : Env} {s : State} {m : MethodId} {args : Array Value} {below : List Frame} {meth : Method} {c : Code} {rF : Int32 ⊕ String} {wF : xW}
end
set_option maxRecDepth 100000 in
set_option maxHeartbeats 4000000 in
theorem ct_X0_number {Γ : xG} {l : Launch} (hl : l.stackTraces = false) (a0 : Nat) (x1 : Int32) (w0 : xW) (rF : Int32 ⊕ String) (wF : xW) (hyp : f_X0_number a0 x1 w0 = some (rF, wF)) : xMet Γ l yX0_number (xws yX0_number cX0_number 2 (some .int)) 0 xI [.ref a0, .int x1] w0 rF wF (x_mc rF) (x_ms rF) := by
  refine xOfW tg_X0_number hl (lv0 := [(0, .ref a0), (1, .int x1)]) (Nat.le_of_ble_eq_true rfl) rfl ?_
  intro p e s m below meth c G hno hin
  rw [f_X0_number] at hyp
  refine r_iload_n G 1 dX0_number_0 rfl rfl ?_
  refine r_if_lt G 22 dX0_number_1 (by decide) hyp (fun c1 hyp => ?_) (fun c1 hyp => ?_)
  · refine r_iconst (v := 0) G dX0_number_22 (by decide) ?_
    exact r_iret G hyp rfl (Nat.zero_le _) (Nat.zero_le _) dX0_number_23
  · refine r_iload_n G 1 dX0_number_4 rfl rfl ?_
    refine r_aload_n G 0 dX0_number_5 rfl rfl ?_
    obtain ⟨v2, hv2, hyp⟩ := x_some hyp
    refine r_getv (C := RX0) (T := TX0) (N := 6) (ci := 0) G 4 (x_getr_e hv2) rfl uw_0 (Nat.le_of_ble_eq_true rfl) rfl ww_9 dX0_number_6 ?_
    refine r_ref hyp (fun a3 ha3 hz => ?_)
    clear hyp; subst ha3; have hyp := hz; clear hz
    obtain ⟨v4, hv4, hyp⟩ := x_some hyp
    refine r_len G hv4 dX0_number_9 ?_
    refine r_icmp_ge G 22 dX0_number_10 (by decide) hyp (fun c5 hyp => ?_) (fun c5 hyp => ?_)
    · refine r_iconst (v := 0) G dX0_number_22 (by decide) ?_
      exact r_iret G hyp rfl (Nat.zero_le _) (Nat.zero_le _) dX0_number_23
    · refine r_aload_n G 0 dX0_number_13 rfl rfl ?_
      obtain ⟨v6, hv6, hyp⟩ := x_some hyp
      refine r_getv (C := RX0) (T := TX0) (N := 6) (ci := 0) G 4 (x_getr_e hv6) rfl uw_0 (Nat.le_of_ble_eq_true rfl) rfl ww_9 dX0_number_14 ?_
      refine r_iload_n G 1 dX0_number_17 rfl rfl ?_
      refine r_ref hyp (fun a7 ha7 hz => ?_)
      clear hyp; subst ha7; have hyp := hz; clear hz
      obtain ⟨v8, hv8, hyp⟩ := x_some hyp
      refine r_iald G hv8 dX0_number_18 ?_
      refine r_goto G 23 dX0_number_19 (by decide) ?_
      exact r_iret G hyp rfl (Nat.zero_le _) (Nat.zero_le _) dX0_number_23
theorem tg_X3_countTones : xTgt yX3_countTones cX3_countTones 3 (some .int) 0 := ⟨ww_221, ww_28, by decide, by decide +kernel, by decide +kernel⟩
section
variable {Γ : xG} {p : Program} {l : Launch} {e : Env} {s : State} {m : MethodId} {args : Array Value} {below : List Frame} {meth : Method} {c : Code} {rF : Int32 ⊕ String} {wF : xW}
set_option maxRecDepth 100000 in
set_option maxHeartbeats 4000000 in
theorem nd_X3_countTones_L4 (G : xCx Γ p l s m args meth c RX3 cX3_countTones 3 (some .int)) (hno : ∀ x ∈ c.exceptionTable.toList, False) : ∀ (n : Nat) (a0 : Nat) (x1 : Int32) (x2 : Int32) (w0 : xW), f_X3_countTones_L4 n a0 x1 x2 w0 = some (rF, wF) → xAW Γ p l e (xRm 0 (x_mc rF) (x_ms rF)) s m args below meth c 3 (xQm Γ below xI rF wF args s (x_mc rF) (x_ms rF)) w0 0 0 4 [(0, .ref a0), (1, .int x1), (2, .int x2)] [] := by
  intro n
  induction n with
  | zero =>
    intro a0 x1 x2 w0 hyp
    cases (show (none : xO Int32) = some (rF, wF) from hyp)
  | succ n ih =>
    intro a0 x1 x2 w0 hyp
    rw [f_X3_countTones_L4] at hyp
    refine r_iload_n G 2 dX3_countTones_4 rfl rfl ?_
    refine r_aload_n G 0 dX3_countTones_5 rfl rfl ?_
    obtain ⟨v1, hv1, hyp⟩ := x_some hyp
    refine r_getv (C := RX3) (T := TX3) (N := 3) (ci := 3) G 2 (x_getr_e hv1) rfl uw_3 (Nat.le_of_ble_eq_true rfl) rfl ww_26 dX3_countTones_6 ?_
    refine r_ref hyp (fun a2 ha2 hz => ?_)
    clear hyp; subst ha2; have hyp := hz; clear hz
    obtain ⟨v3, hv3, hyp⟩ := x_some hyp
    refine r_len G hv3 dX3_countTones_9 ?_
    refine r_icmp_ge G 32 dX3_countTones_10 (by decide) hyp (fun c4 hyp => ?_) (fun c4 hyp => ?_)
    · refine r_iload_n G 1 dX3_countTones_32 rfl rfl ?_
      exact r_iret G hyp rfl (Nat.zero_le _) (Nat.zero_le _) dX3_countTones_33
    · refine r_aload_n G 0 dX3_countTones_13 rfl rfl ?_
      obtain ⟨v5, hv5, hyp⟩ := x_some hyp
      refine r_getv (C := RX3) (T := TX3) (N := 3) (ci := 3) G 2 (x_getr_e hv5) rfl uw_3 (Nat.le_of_ble_eq_true rfl) rfl ww_26 dX3_countTones_14 ?_
      refine r_iload_n G 2 dX3_countTones_17 rfl rfl ?_
      refine r_ref hyp (fun a6 ha6 hz => ?_)
      clear hyp; subst ha6; have hyp := hz; clear hz
      obtain ⟨v7, hv7, hyp⟩ := x_some hyp
      refine r_iald G hv7 dX3_countTones_18 ?_
      refine r_iconst (v := (-1)) G dX3_countTones_19 (by decide) ?_
      refine r_icmp_eq G 26 dX3_countTones_20 (by decide) hyp (fun c8 hyp => ?_) (fun c8 hyp => ?_)
      · refine r_iinc (v := (x2 + 1)) (lv' := [(2, .int (x2 + 1)), (0, .ref a0), (1, .int x1)]) G 2 dX3_countTones_26 rfl rfl (by decide) ⟨fun _ => rfl, fun _ => rfl, fun _ => rfl, trivial⟩ rfl ?_
        refine r_goto G 4 dX3_countTones_29 (by decide) ?_
        refine r_weak (lv' := [(0, .ref a0), (1, .int x1), (2, .int (x2 + 1))]) [1, 2, 0] rfl ?_
        exact ih a0 x1 (x2 + 1) w0 hyp
      · refine r_iinc (v := (x1 + 1)) (lv' := [(1, .int (x1 + 1)), (0, .ref a0), (2, .int x2)]) G 1 dX3_countTones_23 rfl rfl (by decide) ⟨fun _ => rfl, fun _ => rfl, fun _ => rfl, trivial⟩ rfl ?_
        refine r_iinc (v := (x2 + 1)) (lv' := [(2, .int (x2 + 1)), (1, .int (x1 + 1)), (0, .ref a0)]) G 2 dX3_countTones_26 rfl rfl (by decide) ⟨fun _ => rfl, fun _ => rfl, fun _ => rfl, trivial⟩ rfl ?_
        refine r_goto G 4 dX3_countTones_29 (by decide) ?_
        refine r_weak (lv' := [(0, .ref a0), (1, .int (x1 + 1)), (2, .int (x2 + 1))]) [2, 1, 0] rfl ?_
        exact ih a0 (x1 + 1) (x2 + 1) w0 hyp
end
set_option maxRecDepth 100000 in
set_option maxHeartbeats 4000000 in
theorem ct_X3_countTones {Γ : xG} {l : Launch} (hl : l.stackTraces = false) (a0 : Nat) (w0 : xW) (rF : Int32 ⊕ String) (wF : xW) (hyp : f_X3_countTones a0 w0 = some (rF, wF)) : xMet Γ l yX3_countTones (xws yX3_countTones cX3_countTones 3 (some .int)) 0 xI [.ref a0] w0 rF wF (x_mc rF) (x_ms rF) := by
  refine xOfW tg_X3_countTones hl (lv0 := [(0, .ref a0)]) (Nat.le_of_ble_eq_true rfl) rfl ?_
  intro p e s m below meth c G hno hin
  rw [f_X3_countTones] at hyp
  refine r_iconst (v := 0) G dX3_countTones_0 (by decide) ?_
  refine r_istore_n (lv' := [(1, .int 0), (0, .ref a0)]) G dX3_countTones_1 rfl (by decide) ⟨fun _ => rfl, trivial⟩ rfl ?_
  refine r_iconst (v := 0) G dX3_countTones_2 (by decide) ?_
  refine r_istore_n (lv' := [(2, .int 0), (1, .int 0), (0, .ref a0)]) G dX3_countTones_3 rfl (by decide) ⟨fun _ => rfl, fun _ => rfl, trivial⟩ rfl ?_
  refine r_weak (lv' := [(0, .ref a0), (1, .int 0), (2, .int 0)]) [2, 1, 0] rfl ?_
  exact nd_X3_countTones_L4 G hno xfuel a0 0 0 w0 hyp
theorem tg_X3_setTone : xTgt yX3_setTone cX3_setTone 3 none 2 := ⟨ww_222, ww_28, by decide, by decide +kernel, by decide +kernel⟩
section
variable {Γ : xG} {p : Program} {l : Launch} {e : Env} {s : State} {m : MethodId} {args : Array Value} {below : List Frame} {meth : Method} {c : Code} {rF : Unit ⊕ String} {wF : xW}
end
set_option maxRecDepth 100000 in
set_option maxHeartbeats 4000000 in
theorem ct_X3_setTone {Γ : xG} {l : Launch} (hl : l.stackTraces = false) (a0 : Nat) (x1 : Int32) (x2 : Int32) (w0 : xW) (rF : Unit ⊕ String) (wF : xW) (hyp : f_X3_setTone a0 x1 x2 w0 = some (rF, wF)) : xMet Γ l yX3_setTone (xws yX3_setTone cX3_setTone 3 none) 0 xV [.ref a0, .int x1, .int x2] w0 rF wF (x_mc rF) (x_ms rF) := by
  refine xOfW tg_X3_setTone hl (lv0 := [(0, .ref a0), (1, .int x1), (2, .int x2)]) (Nat.le_of_ble_eq_true rfl) rfl ?_
  intro p e s m below meth c G hno hin
  rw [f_X3_setTone] at hyp
  refine r_iload_n G 1 dX3_setTone_0 rfl rfl ?_
  refine r_if_lt G 20 dX3_setTone_1 (by decide) hyp (fun c1 hyp => ?_) (fun c1 hyp => ?_)
  · exact r_vret G hyp (Nat.zero_le _) (Nat.zero_le _) dX3_setTone_20
  · refine r_iload_n G 1 dX3_setTone_4 rfl rfl ?_
    refine r_aload_n G 0 dX3_setTone_5 rfl rfl ?_
    obtain ⟨v2, hv2, hyp⟩ := x_some hyp
    refine r_getv (C := RX3) (T := TX3) (N := 3) (ci := 3) G 2 (x_getr_e hv2) rfl uw_3 (Nat.le_of_ble_eq_true rfl) rfl ww_26 dX3_setTone_6 ?_
    refine r_ref hyp (fun a3 ha3 hz => ?_)
    clear hyp; subst ha3; have hyp := hz; clear hz
    obtain ⟨v4, hv4, hyp⟩ := x_some hyp
    refine r_len G hv4 dX3_setTone_9 ?_
    refine r_icmp_ge G 20 dX3_setTone_10 (by decide) hyp (fun c5 hyp => ?_) (fun c5 hyp => ?_)
    · exact r_vret G hyp (Nat.zero_le _) (Nat.zero_le _) dX3_setTone_20
    · refine r_aload_n G 0 dX3_setTone_13 rfl rfl ?_
      obtain ⟨v6, hv6, hyp⟩ := x_some hyp
      refine r_getv (C := RX3) (T := TX3) (N := 3) (ci := 3) G 2 (x_getr_e hv6) rfl uw_3 (Nat.le_of_ble_eq_true rfl) rfl ww_26 dX3_setTone_14 ?_
      refine r_iload_n G 1 dX3_setTone_17 rfl rfl ?_
      refine r_iload_n G 2 dX3_setTone_18 rfl rfl ?_
      refine r_ref hyp (fun a7 ha7 hz => ?_)
      clear hyp; subst ha7; have hyp := hz; clear hz
      obtain ⟨w8, hw8, hyp⟩ := x_some hyp
      refine r_iast G hw8 dX3_setTone_19 ?_
      exact r_vret G hyp (Nat.zero_le _) (Nat.zero_le _) dX3_setTone_20
theorem tg_X3_takeShadowOf : xTgt yX3_takeShadowOf cX3_takeShadowOf 6 none 2 := ⟨ww_228, ww_28, by decide, by decide +kernel, by decide +kernel⟩
section
variable {Γ : xG} {p : Program} {l : Launch} {e : Env} {s : State} {m : MethodId} {args : Array Value} {below : List Frame} {meth : Method} {c : Code} {rF : Unit ⊕ String} {wF : xW}
set_option maxRecDepth 100000 in
set_option maxHeartbeats 4000000 in
theorem nd_X3_takeShadowOf_L2 (G : xCx Γ p l s m args meth c RX3 cX3_takeShadowOf 6 none) (hno : ∀ x ∈ c.exceptionTable.toList, False) : ∀ (n : Nat) (a0 : Nat) (x1 : Option Nat) (x2 : Int32) (x3 : Int32) (w0 : xW), f_X3_takeShadowOf_L2 n a0 x1 x2 x3 w0 = some (rF, wF) → xAW Γ p l e (xRm 1 (x_mc rF) (x_ms rF)) s m args below meth c 6 (xQm Γ below xV rF wF args s (x_mc rF) (x_ms rF)) w0 0 0 2 [(0, .ref a0), (1, va_rf x1), (2, .int x2), (3, .int x3)] [] := by
  intro n
  induction n with
  | zero =>
    intro a0 x1 x2 x3 w0 hyp
    cases (show (none : xO Unit) = some (rF, wF) from hyp)
  | succ n ih =>
    intro a0 x1 x2 x3 w0 hyp
    rw [f_X3_takeShadowOf_L2] at hyp
    refine r_iload_n G 3 dX3_takeShadowOf_2 rfl rfl ?_
    refine r_bipush (v := 48) G dX3_takeShadowOf_3 (by decide) ?_
    refine r_icmp_ge G 62 dX3_takeShadowOf_5 (by decide) hyp (fun c1 hyp => ?_) (fun c1 hyp => ?_)
    · exact r_vret G hyp (Nat.zero_le _) (Nat.zero_le _) dX3_takeShadowOf_62
    · refine r_iload_n G 3 dX3_takeShadowOf_8 rfl rfl ?_
      refine r_bipush (v := 8) G dX3_takeShadowOf_9 (by decide) ?_
      refine r_irem G dX3_takeShadowOf_11 (by decide) ?_
      refine r_iload_n G 2 dX3_takeShadowOf_12 rfl rfl ?_
      refine r_iadd G dX3_takeShadowOf_13 ?_
      refine r_istore (lv' := [(4, .int ((x3 - x3 / 8 * 8) + x2)), (0, .ref a0), (1, va_rf x1), (2, .int x2), (3, .int x3)]) G dX3_takeShadowOf_14 (by decide) ⟨fun _ => rfl, fun _ => xcq _, fun _ => rfl, fun _ => rfl, trivial⟩ rfl ?_
      refine r_iload_n G 4 dX3_takeShadowOf_16 rfl rfl ?_
      refine r_bipush (v := 8) G dX3_takeShadowOf_17 (by decide) ?_
      refine r_idiv G dX3_takeShadowOf_19 (by decide) ?_
      refine r_iconst (v := 1) G dX3_takeShadowOf_20 (by decide) ?_
      refine r_iadd G dX3_takeShadowOf_21 ?_
      refine r_istore (lv' := [(5, .int ((x3 / 8) + 1)), (4, .int ((x3 - x3 / 8 * 8) + x2)), (0, .ref a0), (1, va_rf x1), (2, .int x2), (3, .int x3)]) G dX3_takeShadowOf_22 (by decide) ⟨fun _ => rfl, fun _ => rfl, fun _ => xcq _, fun _ => rfl, fun _ => rfl, trivial⟩ rfl ?_
      refine r_aload_nq G 3 dX3_takeShadowOf_24 rfl rfl ?_
      refine r_iload_n G 5 dX3_takeShadowOf_25 rfl rfl ?_
      refine r_ref hyp (fun a2 ha2 hz => ?_)
      clear hyp; subst ha2; have hyp := hz; clear hz
      obtain ⟨o5, hyp⟩ := x_chk hyp
      refine r_callV (ι := xI) (T := TX3) (N := 3) (ci := 3) (b := a2) (rest := []) (As := [.int x3]) G hno tg_X3_toneAt (fun r w' h => ct_X3_toneAt (xhl G) _ _ _ r w' h) o5 hyp rfl ww_141 ww_143 ww_142 (by decide) (by decide) rfl rfl (xroom (Nat.le_of_ble_eq_true rfl)) dX3_takeShadowOf_26 (push := (fun r4 => [.int r4])) (fun _ => rfl) (fun r4 w3 hyp => ?_)
      refine r_iconst (v := (-1)) G dX3_takeShadowOf_29 (by decide) ?_
      refine r_icmp_eq G 56 dX3_takeShadowOf_30 (by decide) hyp (fun c6 hyp => ?_) (fun c6 hyp => ?_)
      · refine r_iinc (v := (x3 + 1)) (lv' := [(3, .int (x3 + 1)), (5, .int ((x3 / 8) + 1)), (4, .int ((x3 - x3 / 8 * 8) + x2)), (0, .ref a0), (1, .ref a2), (2, .int x2)]) G 5 dX3_takeShadowOf_56 rfl rfl (by decide) ⟨fun _ => rfl, fun _ => rfl, fun _ => rfl, fun _ => rfl, fun _ => rfl, fun _ => rfl, trivial⟩ rfl ?_
        refine r_goto G 2 dX3_takeShadowOf_59 (by decide) ?_
        refine r_weak (lv' := [(0, .ref a0), (1, .ref a2), (2, .int x2), (3, .int (x3 + 1))]) [3, 4, 5, 0] rfl ?_
        exact ih a0 (some a2) x2 (x3 + 1) w3 hyp
      · refine r_iload G 1 dX3_takeShadowOf_33 rfl ?_
        refine r_iload G 0 dX3_takeShadowOf_35 rfl ?_
        refine r_callSN (ι := xI) (rest := []) (As := [.int ((x3 - x3 / 8 * 8) + x2), .int ((x3 / 8) + 1)]) G hno tg_X6_isCell (fun r w' h => ct_X6_isCell (xhl G) _ _ _ r w' h) hyp ww_223 ww_199 (by decide) (by decide) rfl rfl (xroom (Nat.le_of_ble_eq_true rfl)) dX3_takeShadowOf_37 (push := (fun r8 => [.int r8])) (fun _ => rfl) (fun r8 w7 hyp => ?_)
        refine r_if_eq G 56 dX3_takeShadowOf_40 (by decide) hyp (fun c9 hyp => ?_) (fun c9 hyp => ?_)
        · refine r_iinc (v := (x3 + 1)) (lv' := [(3, .int (x3 + 1)), (5, .int ((x3 / 8) + 1)), (4, .int ((x3 - x3 / 8 * 8) + x2)), (0, .ref a0), (1, .ref a2), (2, .int x2)]) G 5 dX3_takeShadowOf_56 rfl rfl (by decide) ⟨fun _ => rfl, fun _ => rfl, fun _ => rfl, fun _ => rfl, fun _ => rfl, fun _ => rfl, trivial⟩ rfl ?_
          refine r_goto G 2 dX3_takeShadowOf_59 (by decide) ?_
          refine r_weak (lv' := [(0, .ref a0), (1, .ref a2), (2, .int x2), (3, .int (x3 + 1))]) [3, 4, 5, 0] rfl ?_
          exact ih a0 (some a2) x2 (x3 + 1) w7 hyp
        · refine r_aload_n G 2 dX3_takeShadowOf_43 rfl rfl ?_
          refine r_iload G 1 dX3_takeShadowOf_44 rfl ?_
          refine r_iload G 0 dX3_takeShadowOf_46 rfl ?_
          refine r_callSN (ι := xI) (rest := [.ref a0]) (As := [.int ((x3 - x3 / 8 * 8) + x2), .int ((x3 / 8) + 1)]) G hno tg_X6_cellNumber (fun r w' h => ct_X6_cellNumber (xhl G) _ _ _ r w' h) hyp ww_224 ww_201 (by decide) (by decide) rfl rfl (xroom (Nat.le_of_ble_eq_true rfl)) dX3_takeShadowOf_48 (push := (fun r11 => [.int r11, .ref a0])) (fun _ => rfl) (fun r11 w10 hyp => ?_)
          refine r_bipush (v := 8) G dX3_takeShadowOf_51 (by decide) ?_
          obtain ⟨o14, hyp⟩ := x_chk hyp
          refine r_callV (ι := xV) (T := TX3) (N := 3) (ci := 3) (b := a0) (rest := []) (As := [.int r11, .int 8]) G hno tg_X3_setTone (fun r w' h => ct_X3_setTone (xhl G) _ _ _ _ r w' h) o14 hyp rfl ww_225 ww_227 ww_226 (by decide) (by decide) rfl rfl (xroom (Nat.le_of_ble_eq_true rfl)) dX3_takeShadowOf_53 (push := (fun _ => [])) (fun _ => rfl) (fun _ w12 hyp => ?_)
          refine r_iinc (v := (x3 + 1)) (lv' := [(3, .int (x3 + 1)), (5, .int ((x3 / 8) + 1)), (4, .int ((x3 - x3 / 8 * 8) + x2)), (0, .ref a0), (1, .ref a2), (2, .int x2)]) G 5 dX3_takeShadowOf_56 rfl rfl (by decide) ⟨fun _ => rfl, fun _ => rfl, fun _ => rfl, fun _ => rfl, fun _ => rfl, fun _ => rfl, trivial⟩ rfl ?_
          refine r_goto G 2 dX3_takeShadowOf_59 (by decide) ?_
          refine r_weak (lv' := [(0, .ref a0), (1, .ref a2), (2, .int x2), (3, .int (x3 + 1))]) [3, 4, 5, 0] rfl ?_
          exact ih a0 (some a2) x2 (x3 + 1) w12 hyp
end
set_option maxRecDepth 100000 in
set_option maxHeartbeats 4000000 in
theorem ct_X3_takeShadowOf {Γ : xG} {l : Launch} (hl : l.stackTraces = false) (a0 : Nat) (x1 : Option Nat) (x2 : Int32) (w0 : xW) (rF : Unit ⊕ String) (wF : xW) (hyp : f_X3_takeShadowOf a0 x1 x2 w0 = some (rF, wF)) : xMet Γ l yX3_takeShadowOf (xws yX3_takeShadowOf cX3_takeShadowOf 6 none) 1 xV [.ref a0, va_rf x1, .int x2] w0 rF wF (x_mc rF) (x_ms rF) := by
  refine xOfW tg_X3_takeShadowOf hl (lv0 := [(0, .ref a0), (1, va_rf x1), (2, .int x2)]) (by cases x1 <;> exact Nat.le_of_ble_eq_true rfl) (by cases x1 <;> rfl) ?_
  intro p e s m below meth c G hno hin
  rw [f_X3_takeShadowOf] at hyp
  refine r_iconst (v := 0) G dX3_takeShadowOf_0 (by decide) ?_
  refine r_istore_n (lv' := [(3, .int 0), (0, .ref a0), (1, va_rf x1), (2, .int x2)]) G dX3_takeShadowOf_1 rfl (by decide) ⟨fun _ => rfl, fun _ => xcq _, fun _ => rfl, trivial⟩ rfl ?_
  refine r_weak (lv' := [(0, .ref a0), (1, va_rf x1), (2, .int x2), (3, .int 0)]) [1, 2, 3, 0] rfl ?_
  exact nd_X3_takeShadowOf_L2 G hno xfuel a0 x1 x2 0 w0 hyp
theorem tg_X4_addShadow : xTgt yX4_addShadow cX4_addShadow 6 (some .int) 2 := ⟨ww_235, ww_40, by decide, by decide +kernel, by decide +kernel⟩
section
variable {Γ : xG} {p : Program} {l : Launch} {e : Env} {s : State} {m : MethodId} {args : Array Value} {below : List Frame} {meth : Method} {c : Code} {rF : Int32 ⊕ String} {wF : xW}
end
set_option maxRecDepth 100000 in
set_option maxHeartbeats 4000000 in
theorem ct_X4_addShadow {Γ : xG} {l : Launch} (hl : l.stackTraces = false) (a0 : Nat) (x1 : Int32) (x2 : Int32) (w0 : xW) (rF : Int32 ⊕ String) (wF : xW) (hyp : f_X4_addShadow a0 x1 x2 w0 = some (rF, wF)) : xMet Γ l yX4_addShadow (xws yX4_addShadow cX4_addShadow 6 (some .int)) 3 xI [.ref a0, .int x1, .int x2] w0 rF wF (x_mc rF) (x_ms rF) := by
  refine xOfW tg_X4_addShadow hl (lv0 := [(0, .ref a0), (1, .int x1), (2, .int x2)]) (Nat.le_of_ble_eq_true rfl) rfl ?_
  intro p e s m below meth c G hno hin
  rw [f_X4_addShadow] at hyp
  refine r_aload_n G 0 dX4_addShadow_0 rfl rfl ?_
  refine r_iload_n G 1 dX4_addShadow_1 rfl rfl ?_
  obtain ⟨o3, hyp⟩ := x_chk hyp
  refine r_callV (ι := xQ) (T := TX4) (N := 4) (ci := 4) (b := a0) (rest := []) (As := [.int x1]) G hno tg_X4_at (fun r w' h => ct_X4_at (xhl G) _ _ _ r w' h) o3 hyp rfl ww_99 ww_101 ww_100 (by decide) (by decide) rfl rfl (xroom (Nat.le_of_ble_eq_true rfl)) dX4_addShadow_2 (push := (fun r2 => [va_rf r2])) (fun _ => rfl) (fun r2 w1 hyp => ?_)
  refine r_astore_nq (lv' := [(3, va_rf r2), (0, .ref a0), (1, .int x1), (2, .int x2)]) G dX4_addShadow_5 rfl (by decide) ⟨fun _ => rfl, fun _ => rfl, fun _ => rfl, trivial⟩ rfl ?_
  refine r_aload_nq G 0 dX4_addShadow_6 rfl rfl ?_
  refine r_ifnonnull G 13 dX4_addShadow_7 (by decide) hyp (fun a4 ha4 hz => ?_) (fun hyp => ?_)
  · clear hyp; subst ha4; have hyp := hz; clear hz
    refine r_iload_n G 3 dX4_addShadow_13 rfl rfl ?_
    refine r_bipush (v := 6) G dX4_addShadow_14 (by decide) ?_
    refine r_icmp_lt G 25 dX4_addShadow_16 (by decide) hyp (fun c5 hyp => ?_) (fun c5 hyp => ?_)
    · refine r_bipush (v := (-3)) G dX4_addShadow_25 (by decide) ?_
      exact r_iret G hyp rfl (Nat.zero_le _) (Nat.zero_le _) dX4_addShadow_27
    · refine r_iload_n G 3 dX4_addShadow_19 rfl rfl ?_
      refine r_bipush (v := 18) G dX4_addShadow_20 (by decide) ?_
      refine r_icmp_le G 28 dX4_addShadow_22 (by decide) hyp (fun c6 hyp => ?_) (fun c6 hyp => ?_)
      · refine r_aload_n G 1 dX4_addShadow_28 rfl rfl ?_
        refine r_bipush (v := 109) G dX4_addShadow_29 (by decide) ?_
        obtain ⟨o9, hyp⟩ := x_chk hyp
        refine r_callV (ι := xQ) (T := TX4) (N := 4) (ci := 4) (b := a0) (rest := []) (As := [.int 109]) G hno tg_X4_beginLayer (fun r w' h => ct_X4_beginLayer (xhl G) _ _ _ r w' h) o9 hyp rfl ww_125 ww_127 ww_126 (by decide) (by decide) rfl rfl (xroom (Nat.le_of_ble_eq_true rfl)) dX4_addShadow_31 (push := (fun r8 => [va_rf r8])) (fun _ => rfl) (fun r8 w7 hyp => ?_)
        refine r_astoreq (lv' := [(4, va_rf r8), (3, .ref a4), (0, .ref a0), (1, .int x1), (2, .int x2)]) G dX4_addShadow_34 (by decide) ⟨fun _ => rfl, fun _ => rfl, fun _ => rfl, fun _ => rfl, trivial⟩ rfl ?_
        refine r_aloadq G 0 dX4_addShadow_36 rfl ?_
        refine r_ifnonnull G 44 dX4_addShadow_38 (by decide) hyp (fun a10 ha10 hz => ?_) (fun hyp => ?_)
        · clear hyp; subst ha10; have hyp := hz; clear hz
          refine r_aload G 0 dX4_addShadow_44 rfl ?_
          refine r_aload_n G 1 dX4_addShadow_46 rfl rfl ?_
          refine r_iload_n G 4 dX4_addShadow_47 rfl rfl ?_
          refine r_bipush (v := 12) G dX4_addShadow_48 (by decide) ?_
          refine r_isub G dX4_addShadow_50 ?_
          obtain ⟨o13, hyp⟩ := x_chk hyp
          refine r_callV (ι := xV) (T := TX3) (N := 3) (ci := 3) (b := a10) (rest := []) (As := [va_rf (some a4), .int (x2 - 12)]) G hno tg_X3_takeShadowOf (fun r w' h => ct_X3_takeShadowOf (xhl G) _ _ _ _ r w' h) o13 hyp rfl ww_229 ww_231 ww_230 (by decide) (by decide) rfl rfl (xroom (Nat.le_of_ble_eq_true rfl)) dX4_addShadow_51 (push := (fun _ => [])) (fun _ => rfl) (fun _ w11 hyp => ?_)
          refine r_aload G 0 dX4_addShadow_54 rfl ?_
          obtain ⟨o16, hyp⟩ := x_chk hyp
          refine r_callV (ι := xI) (T := TX3) (N := 3) (ci := 3) (b := a10) (rest := []) (As := []) G hno tg_X3_countTones (fun r w' h => ct_X3_countTones (xhl G) _ _ r w' h) o16 hyp rfl ww_232 ww_234 ww_233 (by decide) (by decide) rfl rfl (xroom (Nat.le_of_ble_eq_true rfl)) dX4_addShadow_56 (push := (fun r15 => [.int r15])) (fun _ => rfl) (fun r15 w14 hyp => ?_)
          refine r_istore (lv' := [(5, .int r15), (4, .ref a10), (3, .ref a4), (0, .ref a0), (1, .int x1), (2, .int x2)]) G dX4_addShadow_59 (by decide) ⟨fun _ => rfl, fun _ => rfl, fun _ => rfl, fun _ => rfl, fun _ => rfl, trivial⟩ rfl ?_
          refine r_aload_n G 3 dX4_addShadow_61 rfl rfl ?_
          refine r_dup G dX4_addShadow_62 rfl ?_
          obtain ⟨v17, hv17, hyp⟩ := x_some hyp
          refine r_getv (C := RX4) (T := TX4) (N := 4) (ci := 4) G 2 (x_geti_e hv17) rfl uw_4 (Nat.le_of_ble_eq_true rfl) rfl ww_33 dX4_addShadow_63 ?_
          refine r_iload G 0 dX4_addShadow_66 rfl ?_
          refine r_iadd G dX4_addShadow_68 ?_
          obtain ⟨w18, hw18, hyp⟩ := x_some hyp
          refine r_putv (C := RX4) (T := TX4) (N := 4) (ci := 4) G tyX4 tyX4_ok nmX4 2 hw18 rfl uw_4 (Nat.le_of_ble_eq_true rfl) rfl ww_33 rfl rfl rfl dX4_addShadow_69 ?_
          refine r_iload G 0 dX4_addShadow_72 rfl ?_
          exact r_iret G hyp rfl (Nat.zero_le _) (Nat.zero_le _) dX4_addShadow_74
        · refine r_bipush (v := (-4)) G dX4_addShadow_41 (by decide) ?_
          exact r_iret G hyp rfl (Nat.zero_le _) (Nat.zero_le _) dX4_addShadow_43
      · refine r_bipush (v := (-3)) G dX4_addShadow_25 (by decide) ?_
        exact r_iret G hyp rfl (Nat.zero_le _) (Nat.zero_le _) dX4_addShadow_27
  · refine r_bipush (v := (-2)) G dX4_addShadow_10 (by decide) ?_
    exact r_iret G hyp rfl (Nat.zero_le _) (Nat.zero_le _) dX4_addShadow_12
theorem tg_X3_clearCircle : xTgt yX3_clearCircle cX3_clearCircle 8 (some .int) 3 := ⟨ww_237, ww_28, by decide, by decide +kernel, by decide +kernel⟩
section
variable {Γ : xG} {p : Program} {l : Launch} {e : Env} {s : State} {m : MethodId} {args : Array Value} {below : List Frame} {meth : Method} {c : Code} {rF : Int32 ⊕ String} {wF : xW}
set_option maxRecDepth 100000 in
set_option maxHeartbeats 4000000 in
theorem nd_X3_clearCircle_L9 (G : xCx Γ p l s m args meth c RX3 cX3_clearCircle 8 (some .int)) (hno : ∀ x ∈ c.exceptionTable.toList, False) : ∀ (n : Nat) (a0 : Nat) (x1 : Int32) (x2 : Int32) (x3 : Int32) (x4 : Int32) (x5 : Int32) (w0 : xW), f_X3_clearCircle_L9 n a0 x1 x2 x3 x4 x5 w0 = some (rF, wF) → xAW Γ p l e (xRm 1 (x_mc rF) (x_ms rF)) s m args below meth c 8 (xQm Γ below xI rF wF args s (x_mc rF) (x_ms rF)) w0 0 0 9 [(0, .ref a0), (1, .int x1), (2, .int x2), (3, .int x3), (4, .int x4), (5, .int x5)] [] := by
  intro n
  induction n with
  | zero =>
    intro a0 x1 x2 x3 x4 x5 w0 hyp
    cases (show (none : xO Int32) = some (rF, wF) from hyp)
  | succ n ih =>
    intro a0 x1 x2 x3 x4 x5 w0 hyp
    rw [f_X3_clearCircle_L9] at hyp
    refine r_iload G 5 dX3_clearCircle_9 rfl ?_
    refine r_aload_n G 0 dX3_clearCircle_11 rfl rfl ?_
    obtain ⟨v4, hv4, hyp⟩ := x_some hyp
    refine r_getv (C := RX3) (T := TX3) (N := 3) (ci := 3) G 2 (x_getr_e hv4) rfl uw_3 (Nat.le_of_ble_eq_true rfl) rfl ww_26 dX3_clearCircle_12 ?_
    refine r_ref hyp (fun a5 ha5 hz => ?_)
    clear hyp; subst ha5; have hyp := hz; clear hz
    obtain ⟨v6, hv6, hyp⟩ := x_some hyp
    refine r_len G hv6 dX3_clearCircle_15 ?_
    refine r_icmp_ge G 68 dX3_clearCircle_16 (by decide) hyp (fun c7 hyp => ?_) (fun c7 hyp => ?_)
    · refine r_iload G 4 dX3_clearCircle_68 rfl ?_
      refine r_aload_n G 0 dX3_clearCircle_70 rfl rfl ?_
      obtain ⟨o10, hyp⟩ := x_chk hyp
      refine r_callV (ι := xI) (T := TX3) (N := 3) (ci := 3) (b := a0) (rest := [.int x4]) (As := []) G hno tg_X3_countTones (fun r w' h => ct_X3_countTones (xhl G) _ _ r w' h) o10 hyp rfl ww_236 ww_234 ww_233 (by decide) (by decide) rfl rfl (xroom (Nat.le_of_ble_eq_true rfl)) dX3_clearCircle_71 (push := (fun r9 => [.int r9, .int x4])) (fun _ => rfl) (fun r9 w8 hyp => ?_)
      refine r_isub G dX3_clearCircle_74 ?_
      exact r_iret G hyp rfl (Nat.zero_le _) (Nat.zero_le _) dX3_clearCircle_75
    · refine r_iload G 5 dX3_clearCircle_19 rfl ?_
      refine r_bipush (v := 8) G dX3_clearCircle_21 (by decide) ?_
      refine r_irem G dX3_clearCircle_23 (by decide) ?_
      refine r_iload_n G 1 dX3_clearCircle_24 rfl rfl ?_
      refine r_isub G dX3_clearCircle_25 ?_
      refine r_istore (lv' := [(6, .int ((x5 - x5 / 8 * 8) - x1)), (0, .ref a0), (1, .int x1), (2, .int x2), (3, .int x3), (4, .int x4), (5, .int x5)]) G dX3_clearCircle_26 (by decide) ⟨fun _ => rfl, fun _ => rfl, fun _ => rfl, fun _ => rfl, fun _ => rfl, fun _ => rfl, trivial⟩ rfl ?_
      refine r_iload G 6 dX3_clearCircle_28 rfl ?_
      refine r_bipush (v := 8) G dX3_clearCircle_30 (by decide) ?_
      refine r_idiv G dX3_clearCircle_32 (by decide) ?_
      refine r_iload_n G 3 dX3_clearCircle_33 rfl rfl ?_
      refine r_isub G dX3_clearCircle_34 ?_
      refine r_istore (lv' := [(7, .int ((x5 / 8) - x2)), (6, .int ((x5 - x5 / 8 * 8) - x1)), (0, .ref a0), (1, .int x1), (2, .int x2), (3, .int x3), (4, .int x4), (5, .int x5)]) G dX3_clearCircle_35 (by decide) ⟨fun _ => rfl, fun _ => rfl, fun _ => rfl, fun _ => rfl, fun _ => rfl, fun _ => rfl, fun _ => rfl, trivial⟩ rfl ?_
      refine r_iload G 1 dX3_clearCircle_37 rfl ?_
      refine r_iload G 1 dX3_clearCircle_39 rfl ?_
      refine r_imul G dX3_clearCircle_41 ?_
      refine r_iload G 0 dX3_clearCircle_42 rfl ?_
      refine r_iload G 0 dX3_clearCircle_44 rfl ?_
      refine r_imul G dX3_clearCircle_46 ?_
      refine r_iadd G dX3_clearCircle_47 ?_
      refine r_iload_n G 5 dX3_clearCircle_48 rfl rfl ?_
      refine r_iload_n G 5 dX3_clearCircle_49 rfl rfl ?_
      refine r_imul G dX3_clearCircle_50 ?_
      refine r_icmp_gt G 62 dX3_clearCircle_51 (by decide) hyp (fun c11 hyp => ?_) (fun c11 hyp => ?_)
      · refine r_iinc (v := (x5 + 1)) (lv' := [(5, .int (x5 + 1)), (7, .int ((x5 / 8) - x2)), (6, .int ((x5 - x5 / 8 * 8) - x1)), (0, .ref a0), (1, .int x1), (2, .int x2), (3, .int x3), (4, .int x4)]) G 7 dX3_clearCircle_62 rfl rfl (by decide) ⟨fun _ => rfl, fun _ => rfl, fun _ => rfl, fun _ => rfl, fun _ => rfl, fun _ => rfl, fun _ => rfl, fun _ => rfl, trivial⟩ rfl ?_
        refine r_goto G 9 dX3_clearCircle_65 (by decide) ?_
        refine r_weak (lv' := [(0, .ref a0), (1, .int x1), (2, .int x2), (3, .int x3), (4, .int x4), (5, .int (x5 + 1))]) [3, 4, 5, 6, 7, 0] rfl ?_
        exact ih a0 x1 x2 x3 x4 (x5 + 1) w0 hyp
      · refine r_aload_n G 2 dX3_clearCircle_54 rfl rfl ?_
        obtain ⟨v12, hv12, hyp⟩ := x_some hyp
        refine r_getv (C := RX3) (T := TX3) (N := 3) (ci := 3) G 2 (x_getr_e hv12) rfl uw_3 (Nat.le_of_ble_eq_true rfl) rfl ww_26 dX3_clearCircle_55 ?_
        refine r_iload G 7 dX3_clearCircle_58 rfl ?_
        refine r_iconst (v := (-1)) G dX3_clearCircle_60 (by decide) ?_
        refine r_ref hyp (fun a13 ha13 hz => ?_)
        clear hyp; subst ha13; have hyp := hz; clear hz
        obtain ⟨w14, hw14, hyp⟩ := x_some hyp
        refine r_iast G hw14 dX3_clearCircle_61 ?_
        refine r_iinc (v := (x5 + 1)) (lv' := [(5, .int (x5 + 1)), (7, .int ((x5 / 8) - x2)), (6, .int ((x5 - x5 / 8 * 8) - x1)), (0, .ref a0), (1, .int x1), (2, .int x2), (3, .int x3), (4, .int x4)]) G 7 dX3_clearCircle_62 rfl rfl (by decide) ⟨fun _ => rfl, fun _ => rfl, fun _ => rfl, fun _ => rfl, fun _ => rfl, fun _ => rfl, fun _ => rfl, fun _ => rfl, trivial⟩ rfl ?_
        refine r_goto G 9 dX3_clearCircle_65 (by decide) ?_
        refine r_weak (lv' := [(0, .ref a0), (1, .int x1), (2, .int x2), (3, .int x3), (4, .int x4), (5, .int (x5 + 1))]) [3, 4, 5, 6, 7, 0] rfl ?_
        exact ih a0 x1 x2 x3 x4 (x5 + 1) w14 hyp
end
set_option maxRecDepth 100000 in
set_option maxHeartbeats 4000000 in
theorem ct_X3_clearCircle {Γ : xG} {l : Launch} (hl : l.stackTraces = false) (a0 : Nat) (x1 : Int32) (x2 : Int32) (x3 : Int32) (w0 : xW) (rF : Int32 ⊕ String) (wF : xW) (hyp : f_X3_clearCircle a0 x1 x2 x3 w0 = some (rF, wF)) : xMet Γ l yX3_clearCircle (xws yX3_clearCircle cX3_clearCircle 8 (some .int)) 1 xI [.ref a0, .int x1, .int x2, .int x3] w0 rF wF (x_mc rF) (x_ms rF) := by
  refine xOfW tg_X3_clearCircle hl (lv0 := [(0, .ref a0), (1, .int x1), (2, .int x2), (3, .int x3)]) (Nat.le_of_ble_eq_true rfl) rfl ?_
  intro p e s m below meth c G hno hin
  rw [f_X3_clearCircle] at hyp
  refine r_aload_n G 0 dX3_clearCircle_0 rfl rfl ?_
  obtain ⟨o3, hyp⟩ := x_chk hyp
  refine r_callV (ι := xI) (T := TX3) (N := 3) (ci := 3) (b := a0) (rest := []) (As := []) G hno tg_X3_countTones (fun r w' h => ct_X3_countTones (xhl G) _ _ r w' h) o3 hyp rfl ww_236 ww_234 ww_233 (by decide) (by decide) rfl rfl (xroom (Nat.le_of_ble_eq_true rfl)) dX3_clearCircle_1 (push := (fun r2 => [.int r2])) (fun _ => rfl) (fun r2 w1 hyp => ?_)
  refine r_istore (lv' := [(4, .int r2), (0, .ref a0), (1, .int x1), (2, .int x2), (3, .int x3)]) G dX3_clearCircle_4 (by decide) ⟨fun _ => rfl, fun _ => rfl, fun _ => rfl, fun _ => rfl, trivial⟩ rfl ?_
  refine r_iconst (v := 0) G dX3_clearCircle_6 (by decide) ?_
  refine r_istore (lv' := [(5, .int 0), (4, .int r2), (0, .ref a0), (1, .int x1), (2, .int x2), (3, .int x3)]) G dX3_clearCircle_7 (by decide) ⟨fun _ => rfl, fun _ => rfl, fun _ => rfl, fun _ => rfl, fun _ => rfl, trivial⟩ rfl ?_
  refine r_weak (lv' := [(0, .ref a0), (1, .int x1), (2, .int x2), (3, .int x3), (4, .int r2), (5, .int 0)]) [2, 3, 4, 5, 1, 0] rfl ?_
  exact nd_X3_clearCircle_L9 G hno xfuel a0 x1 x2 x3 r2 0 w1 hyp
