theorem tg_X7_paints : xTgt yX7_paints cX7_paints 10 (some .int) 6 := ⟨ww_715, ww_574, by decide, by decide +kernel, by decide +kernel⟩
section
variable {Γ : xG} {p : Program} {l : Launch} {e : Env} {s : State} {m : MethodId} {args : Array Value} {below : List Frame} {meth : Method} {c : Code} {rF : Int32 ⊕ String} {wF : xW}
set_option maxRecDepth 100000 in
set_option maxHeartbeats 4000000 in
theorem nd_X7_paints_J99 {k59 : Nat → Int32 → Int32 → Int32 → Int32 → Int32 → Int32 → Int32 → xW → xO Int32} {k69 : Nat → Int32 → Int32 → Int32 → Int32 → Int32 → Int32 → Int32 → Int32 → xW → xO Int32} (G : xCx Γ p l s m args meth c RX7 cX7_paints 10 (some .int)) (hno : ∀ x ∈ c.exceptionTable.toList, False) (hk59 : ∀ (a0 : Nat) (x1 : Int32) (x2 : Int32) (x4 : Int32) (x5 : Int32) (x6 : Int32) (x7 : Int32) (x8 : Int32) (w : xW), k59 a0 x1 x2 x4 x5 x6 x7 x8 w = some (rF, wF) → xAW Γ p l e (xRm 2 (x_mc rF) (x_ms rF)) s m args below meth c 10 (xQm Γ below xI rF wF args s (x_mc rF) (x_ms rF)) w 0 0 59 [(0, .ref a0), (1, .int x1), (2, .int x2), (4, .int x4), (5, .int x5), (6, .int x6), (7, .int x7), (8, .int x8)] []) (hk69 : ∀ (a0 : Nat) (x1 : Int32) (x2 : Int32) (x4 : Int32) (x5 : Int32) (x6 : Int32) (x7 : Int32) (x8 : Int32) (x9 : Int32) (w : xW), k69 a0 x1 x2 x4 x5 x6 x7 x8 x9 w = some (rF, wF) → xAW Γ p l e (xRm 2 (x_mc rF) (x_ms rF)) s m args below meth c 10 (xQm Γ below xI rF wF args s (x_mc rF) (x_ms rF)) w 0 0 69 [(0, .ref a0), (1, .int x1), (2, .int x2), (4, .int x4), (5, .int x5), (6, .int x6), (7, .int x7), (8, .int x8), (9, .int x9)] []) (a0 : Nat) (x1 : Int32) (x2 : Int32) (x4 : Int32) (x5 : Int32) (x6 : Int32) (x8 : Int32) (x9 : Int32) (s0 : Int32) (s1 : Int32) (w0 : xW) (hyp : f_X7_paints_J99 k59 k69 a0 x1 x2 x4 x5 x6 x8 x9 s0 s1 w0 = some (rF, wF)) : xAW Γ p l e (xRm 2 (x_mc rF) (x_ms rF)) s m args below meth c 10 (xQm Γ below xI rF wF args s (x_mc rF) (x_ms rF)) w0 0 0 99 [(0, .ref a0), (1, .int x1), (2, .int x2), (4, .int x4), (5, .int x5), (6, .int x6), (8, .int x8), (9, .int x9)] [.int s0, .int s1] := by
  rw [f_X7_paints_J99] at hyp
  refine r_iadd G dX7_paints_99 ?_
  refine r_istore (lv' := [(7, .int (s1 + s0)), (0, .ref a0), (1, .int x1), (2, .int x2), (4, .int x4), (5, .int x5), (6, .int x6), (8, .int x8), (9, .int x9)]) G dX7_paints_100 (by decide) ⟨fun _ => rfl, fun _ => rfl, fun _ => rfl, fun _ => rfl, fun _ => rfl, fun _ => rfl, fun _ => rfl, fun _ => rfl, trivial⟩ rfl ?_
  refine r_aload_n G 1 dX7_paints_102 rfl rfl ?_
  refine r_iload_n G 2 dX7_paints_103 rfl rfl ?_
  refine r_bipush (v := 8) G dX7_paints_104 (by decide) ?_
  refine r_iload G 7 dX7_paints_106 rfl ?_
  refine r_imul G dX7_paints_108 ?_
  refine r_iload G 8 dX7_paints_109 rfl ?_
  refine r_iadd G dX7_paints_111 ?_
  refine r_iload G 6 dX7_paints_112 rfl ?_
  refine r_iconst (v := 1) G dX7_paints_114 (by decide) ?_
  refine r_iadd G dX7_paints_115 ?_
  obtain ⟨o27, hyp⟩ := x_chk hyp
  refine r_callV (ι := xV) (T := TX7) (N := 22) (ci := 7) (b := a0) (rest := []) (As := [.int x1, .int ((8 * x8) + x9), .int (x6 + 1)]) G hno tg_X7_sets (fun r w' h => ct_X7_sets (xhl G) _ _ _ _ _ r w' h) o27 hyp rfl ww_576 ww_578 ww_577 (by decide) (by decide) rfl rfl (xroom (Nat.le_of_ble_eq_true rfl)) dX7_paints_116 (push := (fun _ => [])) (fun _ => rfl) (fun _ w25 hyp => ?_)
  refine r_aload_n G 1 dX7_paints_119 rfl rfl ?_
  obtain ⟨v28, hv28, hyp⟩ := x_some hyp
  refine r_getv (C := RX7) (T := TX7) (N := 22) (ci := 7) G 1 (x_getr_e hv28) rfl uw_7 (Nat.le_of_ble_eq_true rfl) rfl ww_561 dX7_paints_120 ?_
  refine r_iconst (v := 1) G dX7_paints_123 (by decide) ?_
  refine r_dup2 G dX7_paints_124 rfl (xcq _) ?_
  refine r_ref hyp (fun a29 ha29 hz => ?_)
  clear hyp; subst ha29; have hyp := hz; clear hz
  obtain ⟨v30, hv30, hyp⟩ := x_some hyp
  refine r_iald G hv30 dX7_paints_125 ?_
  refine r_iconst (v := 1) G dX7_paints_126 (by decide) ?_
  refine r_iadd G dX7_paints_127 ?_
  obtain ⟨w31, hw31, hyp⟩ := x_some hyp
  refine r_iast G hw31 dX7_paints_128 ?_
  refine r_iinc (v := (x9 + 1)) (lv' := [(9, .int (x9 + 1)), (7, .int (s1 + s0)), (0, .ref a0), (1, .int x1), (2, .int x2), (4, .int x4), (5, .int x5), (6, .int x6), (8, .int x8)]) G 8 dX7_paints_129 rfl rfl (by decide) ⟨fun _ => rfl, fun _ => rfl, fun _ => rfl, fun _ => rfl, fun _ => rfl, fun _ => rfl, fun _ => rfl, fun _ => rfl, fun _ => rfl, trivial⟩ rfl ?_
  refine r_goto G 69 dX7_paints_132 (by decide) ?_
  refine r_weak (lv' := [(0, .ref a0), (1, .int x1), (2, .int x2), (4, .int x4), (5, .int x5), (6, .int x6), (7, .int (s1 + s0)), (8, .int x8), (9, .int (x9 + 1))]) [2, 3, 4, 5, 6, 7, 1, 8, 0] rfl ?_
  exact hk69 a0 x1 x2 x4 x5 x6 (s1 + s0) x8 (x9 + 1) w31 hyp
set_option maxRecDepth 100000 in
set_option maxHeartbeats 4000000 in
theorem nd_X7_paints_L69 {k59 : Nat → Int32 → Int32 → Int32 → Int32 → Int32 → Int32 → Int32 → xW → xO Int32} (G : xCx Γ p l s m args meth c RX7 cX7_paints 10 (some .int)) (hno : ∀ x ∈ c.exceptionTable.toList, False) (hk59 : ∀ (a0 : Nat) (x1 : Int32) (x2 : Int32) (x4 : Int32) (x5 : Int32) (x6 : Int32) (x7 : Int32) (x8 : Int32) (w : xW), k59 a0 x1 x2 x4 x5 x6 x7 x8 w = some (rF, wF) → xAW Γ p l e (xRm 2 (x_mc rF) (x_ms rF)) s m args below meth c 10 (xQm Γ below xI rF wF args s (x_mc rF) (x_ms rF)) w 0 0 59 [(0, .ref a0), (1, .int x1), (2, .int x2), (4, .int x4), (5, .int x5), (6, .int x6), (7, .int x7), (8, .int x8)] []) : ∀ (n : Nat) (a0 : Nat) (x1 : Int32) (x2 : Int32) (x4 : Int32) (x5 : Int32) (x6 : Int32) (x7 : Int32) (x8 : Int32) (x9 : Int32) (w0 : xW), f_X7_paints_L69 k59 n a0 x1 x2 x4 x5 x6 x7 x8 x9 w0 = some (rF, wF) → xAW Γ p l e (xRm 2 (x_mc rF) (x_ms rF)) s m args below meth c 10 (xQm Γ below xI rF wF args s (x_mc rF) (x_ms rF)) w0 0 0 69 [(0, .ref a0), (1, .int x1), (2, .int x2), (4, .int x4), (5, .int x5), (6, .int x6), (7, .int x7), (8, .int x8), (9, .int x9)] [] := by
  intro n
  induction n with
  | zero =>
    intro a0 x1 x2 x4 x5 x6 x7 x8 x9 w0 hyp
    cases (show (none : xO Int32) = some (rF, wF) from hyp)
  | succ n ih =>
    intro a0 x1 x2 x4 x5 x6 x7 x8 x9 w0 hyp
    rw [f_X7_paints_L69] at hyp
    refine r_iload G 8 dX7_paints_69 rfl ?_
    refine r_iload G 3 dX7_paints_71 rfl ?_
    refine r_icmp_gt G 135 dX7_paints_73 (by decide) hyp (fun c20 hyp => ?_) (fun c20 hyp => ?_)
    · refine r_iinc (v := (x8 + 1)) (lv' := [(8, .int (x8 + 1)), (0, .ref a0), (1, .int x1), (2, .int x2), (4, .int x4), (5, .int x5), (6, .int x6), (7, .int x7), (9, .int x9)]) G 7 dX7_paints_135 rfl rfl (by decide) ⟨fun _ => rfl, fun _ => rfl, fun _ => rfl, fun _ => rfl, fun _ => rfl, fun _ => rfl, fun _ => rfl, fun _ => rfl, fun _ => rfl, trivial⟩ rfl ?_
      refine r_goto G 59 dX7_paints_138 (by decide) ?_
      refine r_weak (lv' := [(0, .ref a0), (1, .int x1), (2, .int x2), (4, .int x4), (5, .int x5), (6, .int x6), (7, .int x7), (8, .int (x8 + 1))]) [1, 2, 3, 4, 5, 6, 7, 0] rfl ?_
      exact hk59 a0 x1 x2 x4 x5 x6 x7 (x8 + 1) w0 hyp
    · refine r_iload G 6 dX7_paints_76 rfl ?_
      refine r_aload_n G 0 dX7_paints_78 rfl rfl ?_
      refine r_iload_n G 1 dX7_paints_79 rfl rfl ?_
      refine r_bipush (v := 8) G dX7_paints_80 (by decide) ?_
      refine r_iload G 7 dX7_paints_82 rfl ?_
      refine r_imul G dX7_paints_84 ?_
      refine r_iload G 8 dX7_paints_85 rfl ?_
      refine r_iadd G dX7_paints_87 ?_
      obtain ⟨o23, hyp⟩ := x_chk hyp
      refine r_callV (ι := xI) (T := TX7) (N := 22) (ci := 7) (b := a0) (rest := [.int x7]) (As := [.int x1, .int ((8 * x8) + x9)]) G hno tg_X7_at (fun r w' h => ct_X7_at (xhl G) _ _ _ _ r w' h) o23 hyp rfl ww_621 ww_623 ww_622 (by decide) (by decide) rfl rfl (xroom (Nat.le_of_ble_eq_true rfl)) dX7_paints_88 (push := (fun r22 => [.int r22, .int x7])) (fun _ => rfl) (fun r22 w21 hyp => ?_)
      refine r_if_ne G 98 dX7_paints_91 (by decide) hyp (fun c24 hyp => ?_) (fun c24 hyp => ?_)
      · refine r_iconst (v := 0) G dX7_paints_98 (by decide) ?_
        refine r_weak (lv' := [(0, .ref a0), (1, .int x1), (2, .int x2), (4, .int x4), (5, .int x5), (6, .int x6), (8, .int x8), (9, .int x9)]) [0, 1, 2, 3, 4, 5, 7, 8] rfl ?_
        exact nd_X7_paints_J99 G hno hk59 ih a0 x1 x2 x4 x5 x6 x8 x9 0 x7 w21 hyp
      · refine r_iconst (v := 1) G dX7_paints_94 (by decide) ?_
        refine r_goto G 99 dX7_paints_95 (by decide) ?_
        refine r_weak (lv' := [(0, .ref a0), (1, .int x1), (2, .int x2), (4, .int x4), (5, .int x5), (6, .int x6), (8, .int x8), (9, .int x9)]) [0, 1, 2, 3, 4, 5, 7, 8] rfl ?_
        exact nd_X7_paints_J99 G hno hk59 ih a0 x1 x2 x4 x5 x6 x8 x9 1 x7 w21 hyp
set_option maxRecDepth 100000 in
set_option maxHeartbeats 4000000 in
theorem nd_X7_paints_L59 (G : xCx Γ p l s m args meth c RX7 cX7_paints 10 (some .int)) (hno : ∀ x ∈ c.exceptionTable.toList, False) : ∀ (n : Nat) (a0 : Nat) (x1 : Int32) (x2 : Int32) (x4 : Int32) (x5 : Int32) (x6 : Int32) (x7 : Int32) (x8 : Int32) (w0 : xW), f_X7_paints_L59 n a0 x1 x2 x4 x5 x6 x7 x8 w0 = some (rF, wF) → xAW Γ p l e (xRm 2 (x_mc rF) (x_ms rF)) s m args below meth c 10 (xQm Γ below xI rF wF args s (x_mc rF) (x_ms rF)) w0 0 0 59 [(0, .ref a0), (1, .int x1), (2, .int x2), (4, .int x4), (5, .int x5), (6, .int x6), (7, .int x7), (8, .int x8)] [] := by
  intro n
  induction n with
  | zero =>
    intro a0 x1 x2 x4 x5 x6 x7 x8 w0 hyp
    cases (show (none : xO Int32) = some (rF, wF) from hyp)
  | succ n ih =>
    intro a0 x1 x2 x4 x5 x6 x7 x8 w0 hyp
    rw [f_X7_paints_L59] at hyp
    refine r_iload G 7 dX7_paints_59 rfl ?_
    refine r_iload G 4 dX7_paints_61 rfl ?_
    refine r_icmp_gt G 141 dX7_paints_63 (by decide) hyp (fun c16 hyp => ?_) (fun c16 hyp => ?_)
    · refine r_aload_n G 0 dX7_paints_141 rfl rfl ?_
      refine r_iload G 6 dX7_paints_142 rfl ?_
      obtain ⟨o19, hyp⟩ := x_chk hyp
      refine r_callV (ι := xI) (T := TX7) (N := 22) (ci := 7) (b := a0) (rest := []) (As := [.int x7]) G hno tg_X7_done (fun r w' h => ct_X7_done (xhl G) _ _ _ r w' h) o19 hyp rfl ww_588 ww_590 ww_589 (by decide) (by decide) rfl rfl (xroom (Nat.le_of_ble_eq_true rfl)) dX7_paints_144 (push := (fun r18 => [.int r18])) (fun _ => rfl) (fun r18 w17 hyp => ?_)
      exact r_iret G hyp rfl (Nat.zero_le _) (Nat.zero_le _) dX7_paints_147
    · refine r_iload_n G 2 dX7_paints_66 rfl rfl ?_
      refine r_istore (lv' := [(9, .int x2), (0, .ref a0), (1, .int x1), (2, .int x2), (4, .int x4), (5, .int x5), (6, .int x6), (7, .int x7), (8, .int x8)]) G dX7_paints_67 (by decide) ⟨fun _ => rfl, fun _ => rfl, fun _ => rfl, fun _ => rfl, fun _ => rfl, fun _ => rfl, fun _ => rfl, fun _ => rfl, trivial⟩ rfl ?_
      refine r_weak (lv' := [(0, .ref a0), (1, .int x1), (2, .int x2), (4, .int x4), (5, .int x5), (6, .int x6), (7, .int x7), (8, .int x8), (9, .int x2)]) [1, 2, 3, 4, 5, 6, 7, 8, 0] rfl ?_
      exact nd_X7_paints_L69 G hno ih xfuel a0 x1 x2 x4 x5 x6 x7 x8 x2 w0 hyp
end
set_option maxRecDepth 100000 in
set_option maxHeartbeats 4000000 in
theorem ct_X7_paints {Γ : xG} {l : Launch} (hl : l.stackTraces = false) (a0 : Nat) (x1 : Int32) (x2 : Int32) (x3 : Int32) (x4 : Int32) (x5 : Int32) (x6 : Int32) (w0 : xW) (rF : Int32 ⊕ String) (wF : xW) (hyp : f_X7_paints a0 x1 x2 x3 x4 x5 x6 w0 = some (rF, wF)) : xMet Γ l yX7_paints (xws yX7_paints cX7_paints 10 (some .int)) 2 xI [.ref a0, .int x1, .int x2, .int x3, .int x4, .int x5, .int x6] w0 rF wF (x_mc rF) (x_ms rF) := by
  refine xOfW tg_X7_paints hl (lv0 := [(0, .ref a0), (1, .int x1), (2, .int x2), (3, .int x3), (4, .int x4), (5, .int x5), (6, .int x6)]) (Nat.le_of_ble_eq_true rfl) rfl ?_
  intro p e s m below meth c G hno hin
  rw [f_X7_paints] at hyp
  refine r_aload_n G 0 dX7_paints_0 rfl rfl ?_
  refine r_iload_n G 1 dX7_paints_1 rfl rfl ?_
  obtain ⟨o3, hyp⟩ := x_chk hyp
  refine r_callV (ι := xI) (T := TX7) (N := 22) (ci := 7) (b := a0) (rest := []) (As := [.int x1]) G hno tg_X7_isLayer (fun r w' h => ct_X7_isLayer (xhl G) _ _ _ r w' h) o3 hyp rfl ww_678 ww_680 ww_679 (by decide) (by decide) rfl rfl (xroom (Nat.le_of_ble_eq_true rfl)) dX7_paints_2 (push := (fun r2 => [.int r2])) (fun _ => rfl) (fun r2 w1 hyp => ?_)
  refine r_if_eq G 26 dX7_paints_5 (by decide) hyp (fun c4 hyp => ?_) (fun c4 hyp => ?_)
  · refine r_iconst (v := 1) G dX7_paints_26 (by decide) ?_
    exact r_iret G hyp rfl (Nat.zero_le _) (Nat.zero_le _) dX7_paints_27
  · refine r_iload_n G 2 dX7_paints_8 rfl rfl ?_
    refine r_iload_n G 3 dX7_paints_9 rfl rfl ?_
    refine r_callS (ι := xI) (rest := []) (As := [.int x2, .int x3]) G hno tg_X7_isCell (fun r w' h => ct_X7_isCell (xhl G) _ _ _ r w' h) hyp ww_651 ww_652 (by decide) (by decide) rfl rfl (xroom (Nat.le_of_ble_eq_true rfl)) dX7_paints_10 (push := (fun r6 => [.int r6])) (fun _ => rfl) (fun r6 w5 hyp => ?_)
    refine r_if_eq G 26 dX7_paints_13 (by decide) hyp (fun c7 hyp => ?_) (fun c7 hyp => ?_)
    · refine r_iconst (v := 1) G dX7_paints_26 (by decide) ?_
      exact r_iret G hyp rfl (Nat.zero_le _) (Nat.zero_le _) dX7_paints_27
    · refine r_iload G 4 dX7_paints_16 rfl ?_
      refine r_iload G 5 dX7_paints_18 rfl ?_
      refine r_callS (ι := xI) (rest := []) (As := [.int x4, .int x5]) G hno tg_X7_isCell (fun r w' h => ct_X7_isCell (xhl G) _ _ _ r w' h) hyp ww_651 ww_652 (by decide) (by decide) rfl rfl (xroom (Nat.le_of_ble_eq_true rfl)) dX7_paints_20 (push := (fun r9 => [.int r9])) (fun _ => rfl) (fun r9 w8 hyp => ?_)
      refine r_if_ne G 28 dX7_paints_23 (by decide) hyp (fun c10 hyp => ?_) (fun c10 hyp => ?_)
      · refine r_iload_n G 2 dX7_paints_28 rfl rfl ?_
        refine r_iload G 4 dX7_paints_29 rfl ?_
        refine r_icmp_gt G 51 dX7_paints_31 (by decide) hyp (fun c11 hyp => ?_) (fun c11 hyp => ?_)
        · refine r_iconst (v := 2) G dX7_paints_51 (by decide) ?_
          exact r_iret G hyp rfl (Nat.zero_le _) (Nat.zero_le _) dX7_paints_52
        · refine r_iload_n G 3 dX7_paints_34 rfl rfl ?_
          refine r_iload G 5 dX7_paints_35 rfl ?_
          refine r_icmp_gt G 51 dX7_paints_37 (by decide) hyp (fun c12 hyp => ?_) (fun c12 hyp => ?_)
          · refine r_iconst (v := 2) G dX7_paints_51 (by decide) ?_
            exact r_iret G hyp rfl (Nat.zero_le _) (Nat.zero_le _) dX7_paints_52
          · refine r_iload G 6 dX7_paints_40 rfl ?_
            refine r_iconst (v := 0) G dX7_paints_42 (by decide) ?_
            refine r_bipush (v := 15) G dX7_paints_43 (by decide) ?_
            refine r_callS (ι := xI) (rest := []) (As := [.int x6, .int 0, .int 15]) G hno tg_X7_in (fun r w' h => ct_X7_in (xhl G) _ _ _ _ r w' h) hyp ww_647 ww_648 (by decide) (by decide) rfl rfl (xroom (Nat.le_of_ble_eq_true rfl)) dX7_paints_45 (push := (fun r14 => [.int r14])) (fun _ => rfl) (fun r14 w13 hyp => ?_)
            refine r_if_ne G 53 dX7_paints_48 (by decide) hyp (fun c15 hyp => ?_) (fun c15 hyp => ?_)
            · refine r_iconst (v := 0) G dX7_paints_53 (by decide) ?_
              refine r_istore (lv' := [(7, .int 0), (0, .ref a0), (1, .int x1), (2, .int x2), (3, .int x3), (4, .int x4), (5, .int x5), (6, .int x6)]) G dX7_paints_54 (by decide) ⟨fun _ => rfl, fun _ => rfl, fun _ => rfl, fun _ => rfl, fun _ => rfl, fun _ => rfl, fun _ => rfl, trivial⟩ rfl ?_
              refine r_iload_n G 4 dX7_paints_56 rfl rfl ?_
              refine r_istore (lv' := [(8, .int x3), (7, .int 0), (0, .ref a0), (1, .int x1), (2, .int x2), (3, .int x3), (4, .int x4), (5, .int x5), (6, .int x6)]) G dX7_paints_57 (by decide) ⟨fun _ => rfl, fun _ => rfl, fun _ => rfl, fun _ => rfl, fun _ => rfl, fun _ => rfl, fun _ => rfl, fun _ => rfl, trivial⟩ rfl ?_
              refine r_weak (lv' := [(0, .ref a0), (1, .int x1), (2, .int x2), (4, .int x4), (5, .int x5), (6, .int x6), (7, .int 0), (8, .int x3)]) [2, 3, 4, 6, 7, 8, 1, 0] rfl ?_
              exact nd_X7_paints_L59 G hno xfuel a0 x1 x2 x4 x5 x6 0 x3 w13 hyp
            · refine r_iconst (v := 2) G dX7_paints_51 (by decide) ?_
              exact r_iret G hyp rfl (Nat.zero_le _) (Nat.zero_le _) dX7_paints_52
      · refine r_iconst (v := 1) G dX7_paints_26 (by decide) ?_
        exact r_iret G hyp rfl (Nat.zero_le _) (Nat.zero_le _) dX7_paints_27
theorem tg_X7_showing : xTgt yX7_showing cX7_showing 3 (some .int) 0 := ⟨ww_716, ww_574, by decide, by decide +kernel, by decide +kernel⟩
section
variable {Γ : xG} {p : Program} {l : Launch} {e : Env} {s : State} {m : MethodId} {args : Array Value} {below : List Frame} {meth : Method} {c : Code} {rF : Int32 ⊕ String} {wF : xW}
set_option maxRecDepth 100000 in
set_option maxHeartbeats 4000000 in
theorem nd_X7_showing_L4 (G : xCx Γ p l s m args meth c RX7 cX7_showing 3 (some .int)) (hno : ∀ x ∈ c.exceptionTable.toList, False) : ∀ (n : Nat) (a0 : Nat) (x1 : Int32) (x2 : Int32) (w0 : xW), f_X7_showing_L4 n a0 x1 x2 w0 = some (rF, wF) → xAW Γ p l e (xRm 1 (x_mc rF) (x_ms rF)) s m args below meth c 3 (xQm Γ below xI rF wF args s (x_mc rF) (x_ms rF)) w0 0 0 4 [(0, .ref a0), (1, .int x1), (2, .int x2)] [] := by
  intro n
  induction n with
  | zero =>
    intro a0 x1 x2 w0 hyp
    cases (show (none : xO Int32) = some (rF, wF) from hyp)
  | succ n ih =>
    intro a0 x1 x2 w0 hyp
    rw [f_X7_showing_L4] at hyp
    refine r_iload_n G 2 dX7_showing_4 rfl rfl ?_
    refine r_aload_n G 0 dX7_showing_5 rfl rfl ?_
    obtain ⟨v1, hv1, hyp⟩ := x_some hyp
    refine r_getv (C := RX7) (T := TX7) (N := 22) (ci := 7) G 1 (x_getr_e hv1) rfl uw_7 (Nat.le_of_ble_eq_true rfl) rfl ww_561 dX7_showing_6 ?_
    refine r_iconst (v := 0) G dX7_showing_9 (by decide) ?_
    refine r_ref hyp (fun a2 ha2 hz => ?_)
    clear hyp; subst ha2; have hyp := hz; clear hz
    obtain ⟨v3, hv3, hyp⟩ := x_some hyp
    refine r_iald G hv3 dX7_showing_10 ?_
    refine r_icmp_ge G 36 dX7_showing_11 (by decide) hyp (fun c4 hyp => ?_) (fun c4 hyp => ?_)
    · refine r_iload_n G 1 dX7_showing_36 rfl rfl ?_
      exact r_iret G hyp rfl (Nat.zero_le _) (Nat.zero_le _) dX7_showing_37
    · refine r_iload_n G 1 dX7_showing_14 rfl rfl ?_
      refine r_aload_n G 0 dX7_showing_15 rfl rfl ?_
      refine r_iload_n G 2 dX7_showing_16 rfl rfl ?_
      obtain ⟨o7, hyp⟩ := x_chk hyp
      refine r_callV (ι := xI) (T := TX7) (N := 22) (ci := 7) (b := a0) (rest := [.int x1]) (As := [.int x2]) G hno tg_X7_shown (fun r w' h => ct_X7_shown (xhl G) _ _ _ r w' h) o7 hyp rfl ww_618 ww_620 ww_619 (by decide) (by decide) rfl rfl (xroom (Nat.le_of_ble_eq_true rfl)) dX7_showing_17 (push := (fun r6 => [.int r6, .int x1])) (fun _ => rfl) (fun r6 w5 hyp => ?_)
      refine r_if_eq G 27 dX7_showing_20 (by decide) hyp (fun c8 hyp => ?_) (fun c8 hyp => ?_)
      · refine r_iconst (v := 0) G dX7_showing_27 (by decide) ?_
        refine r_iadd G dX7_showing_28 ?_
        refine r_istore_n (lv' := [(1, .int (x1 + 0)), (0, .ref a0), (2, .int x2)]) G dX7_showing_29 rfl (by decide) ⟨fun _ => rfl, fun _ => rfl, fun _ => rfl, trivial⟩ rfl ?_
        refine r_iinc (v := (x2 + 1)) (lv' := [(2, .int (x2 + 1)), (1, .int (x1 + 0)), (0, .ref a0)]) G 2 dX7_showing_30 rfl rfl (by decide) ⟨fun _ => rfl, fun _ => rfl, fun _ => rfl, trivial⟩ rfl ?_
        refine r_goto G 4 dX7_showing_33 (by decide) ?_
        refine r_weak (lv' := [(0, .ref a0), (1, .int (x1 + 0)), (2, .int (x2 + 1))]) [2, 1, 0] rfl ?_
        exact ih a0 (x1 + 0) (x2 + 1) w5 hyp
      · refine r_iconst (v := 1) G dX7_showing_23 (by decide) ?_
        refine r_goto G 28 dX7_showing_24 (by decide) ?_
        refine r_iadd G dX7_showing_28 ?_
        refine r_istore_n (lv' := [(1, .int (x1 + 1)), (0, .ref a0), (2, .int x2)]) G dX7_showing_29 rfl (by decide) ⟨fun _ => rfl, fun _ => rfl, fun _ => rfl, trivial⟩ rfl ?_
        refine r_iinc (v := (x2 + 1)) (lv' := [(2, .int (x2 + 1)), (1, .int (x1 + 1)), (0, .ref a0)]) G 2 dX7_showing_30 rfl rfl (by decide) ⟨fun _ => rfl, fun _ => rfl, fun _ => rfl, trivial⟩ rfl ?_
        refine r_goto G 4 dX7_showing_33 (by decide) ?_
        refine r_weak (lv' := [(0, .ref a0), (1, .int (x1 + 1)), (2, .int (x2 + 1))]) [2, 1, 0] rfl ?_
        exact ih a0 (x1 + 1) (x2 + 1) w5 hyp
end
set_option maxRecDepth 100000 in
set_option maxHeartbeats 4000000 in
theorem ct_X7_showing {Γ : xG} {l : Launch} (hl : l.stackTraces = false) (a0 : Nat) (w0 : xW) (rF : Int32 ⊕ String) (wF : xW) (hyp : f_X7_showing a0 w0 = some (rF, wF)) : xMet Γ l yX7_showing (xws yX7_showing cX7_showing 3 (some .int)) 1 xI [.ref a0] w0 rF wF (x_mc rF) (x_ms rF) := by
  refine xOfW tg_X7_showing hl (lv0 := [(0, .ref a0)]) (Nat.le_of_ble_eq_true rfl) rfl ?_
  intro p e s m below meth c G hno hin
  rw [f_X7_showing] at hyp
  refine r_iconst (v := 0) G dX7_showing_0 (by decide) ?_
  refine r_istore_n (lv' := [(1, .int 0), (0, .ref a0)]) G dX7_showing_1 rfl (by decide) ⟨fun _ => rfl, trivial⟩ rfl ?_
  refine r_iconst (v := 0) G dX7_showing_2 (by decide) ?_
  refine r_istore_n (lv' := [(2, .int 0), (1, .int 0), (0, .ref a0)]) G dX7_showing_3 rfl (by decide) ⟨fun _ => rfl, fun _ => rfl, trivial⟩ rfl ?_
  refine r_weak (lv' := [(0, .ref a0), (1, .int 0), (2, .int 0)]) [2, 1, 0] rfl ?_
  exact nd_X7_showing_L4 G hno xfuel a0 0 0 w0 hyp
theorem tg_X7_turns : xTgt yX7_turns cX7_turns 3 (some .int) 2 := ⟨ww_720, ww_574, by decide, by decide +kernel, by decide +kernel⟩
section
variable {Γ : xG} {p : Program} {l : Launch} {e : Env} {s : State} {m : MethodId} {args : Array Value} {below : List Frame} {meth : Method} {c : Code} {rF : Int32 ⊕ String} {wF : xW}
end
set_option maxRecDepth 100000 in
set_option maxHeartbeats 4000000 in
theorem ct_X7_turns {Γ : xG} {l : Launch} (hl : l.stackTraces = false) (a0 : Nat) (x1 : Int32) (x2 : Int32) (w0 : xW) (rF : Int32 ⊕ String) (wF : xW) (hyp : f_X7_turns a0 x1 x2 w0 = some (rF, wF)) : xMet Γ l yX7_turns (xws yX7_turns cX7_turns 3 (some .int)) 2 xI [.ref a0, .int x1, .int x2] w0 rF wF (x_mc rF) (x_ms rF) := by
  refine xOfW tg_X7_turns hl (lv0 := [(0, .ref a0), (1, .int x1), (2, .int x2)]) (Nat.le_of_ble_eq_true rfl) rfl ?_
  intro p e s m below meth c G hno hin
  rw [f_X7_turns] at hyp
  refine r_aload_n G 0 dX7_turns_0 rfl rfl ?_
  refine r_iload_n G 1 dX7_turns_1 rfl rfl ?_
  obtain ⟨o3, hyp⟩ := x_chk hyp
  refine r_callV (ι := xI) (T := TX7) (N := 22) (ci := 7) (b := a0) (rest := []) (As := [.int x1]) G hno tg_X7_isLayer (fun r w' h => ct_X7_isLayer (xhl G) _ _ _ r w' h) o3 hyp rfl ww_678 ww_680 ww_679 (by decide) (by decide) rfl rfl (xroom (Nat.le_of_ble_eq_true rfl)) dX7_turns_2 (push := (fun r2 => [.int r2])) (fun _ => rfl) (fun r2 w1 hyp => ?_)
  refine r_if_ne G 10 dX7_turns_5 (by decide) hyp (fun c4 hyp => ?_) (fun c4 hyp => ?_)
  · refine r_aload_n G 0 dX7_turns_10 rfl rfl ?_
    obtain ⟨v5, hv5, hyp⟩ := x_some hyp
    refine r_getv (C := RX7) (T := TX7) (N := 22) (ci := 7) G 1 (x_getr_e hv5) rfl uw_7 (Nat.le_of_ble_eq_true rfl) rfl ww_561 dX7_turns_11 ?_
    refine r_iconst (v := 3) G dX7_turns_14 (by decide) ?_
    refine r_bipush (v := 50) G dX7_turns_15 (by decide) ?_
    refine r_iload_n G 1 dX7_turns_17 rfl rfl ?_
    refine r_imul G dX7_turns_18 ?_
    refine r_iadd G dX7_turns_19 ?_
    refine r_iconst (v := 1) G dX7_turns_20 (by decide) ?_
    refine r_iadd G dX7_turns_21 ?_
    refine r_ref hyp (fun a6 ha6 hz => ?_)
    clear hyp; subst ha6; have hyp := hz; clear hz
    obtain ⟨v7, hv7, hyp⟩ := x_some hyp
    refine r_iald G hv7 dX7_turns_22 ?_
    refine r_iload_n G 2 dX7_turns_23 rfl rfl ?_
    refine r_icmp_ne G 29 dX7_turns_24 (by decide) hyp (fun c8 hyp => ?_) (fun c8 hyp => ?_)
    · refine r_aload_n G 0 dX7_turns_29 rfl rfl ?_
      obtain ⟨v9, hv9, hyp⟩ := x_some hyp
      refine r_getv (C := RX7) (T := TX7) (N := 22) (ci := 7) G 1 (x_getr_e hv9) rfl uw_7 (Nat.le_of_ble_eq_true rfl) rfl ww_561 dX7_turns_30 ?_
      refine r_iconst (v := 3) G dX7_turns_33 (by decide) ?_
      refine r_bipush (v := 50) G dX7_turns_34 (by decide) ?_
      refine r_iload_n G 1 dX7_turns_36 rfl rfl ?_
      refine r_imul G dX7_turns_37 ?_
      refine r_iadd G dX7_turns_38 ?_
      refine r_iconst (v := 1) G dX7_turns_39 (by decide) ?_
      refine r_iadd G dX7_turns_40 ?_
      refine r_iload_n G 2 dX7_turns_41 rfl rfl ?_
      refine r_ref hyp (fun a10 ha10 hz => ?_)
      clear hyp; subst ha10; have hyp := hz; clear hz
      obtain ⟨w11, hw11, hyp⟩ := x_some hyp
      refine r_iast G hw11 dX7_turns_42 ?_
      refine r_aload_n G 0 dX7_turns_43 rfl rfl ?_
      refine r_aload_n G 0 dX7_turns_44 rfl rfl ?_
      obtain ⟨o14, hyp⟩ := x_chk hyp
      refine r_callV (ι := xI) (T := TX7) (N := 22) (ci := 7) (b := a0) (rest := [.ref a0]) (As := []) G hno tg_X7_showing (fun r w' h => ct_X7_showing (xhl G) _ _ r w' h) o14 hyp rfl ww_717 ww_719 ww_718 (by decide) (by decide) rfl rfl (xroom (Nat.le_of_ble_eq_true rfl)) dX7_turns_45 (push := (fun r13 => [.int r13, .ref a0])) (fun _ => rfl) (fun r13 w12 hyp => ?_)
      obtain ⟨o17, hyp⟩ := x_chk hyp
      refine r_callV (ι := xI) (T := TX7) (N := 22) (ci := 7) (b := a0) (rest := []) (As := [.int r13]) G hno tg_X7_done (fun r w' h => ct_X7_done (xhl G) _ _ _ r w' h) o17 hyp rfl ww_588 ww_590 ww_589 (by decide) (by decide) rfl rfl (xroom (Nat.le_of_ble_eq_true rfl)) dX7_turns_48 (push := (fun r16 => [.int r16])) (fun _ => rfl) (fun r16 w15 hyp => ?_)
      exact r_iret G hyp rfl (Nat.zero_le _) (Nat.zero_le _) dX7_turns_51
    · refine r_iconst (v := 2) G dX7_turns_27 (by decide) ?_
      exact r_iret G hyp rfl (Nat.zero_le _) (Nat.zero_le _) dX7_turns_28
  · refine r_iconst (v := 1) G dX7_turns_8 (by decide) ?_
    exact r_iret G hyp rfl (Nat.zero_le _) (Nat.zero_le _) dX7_turns_9
theorem tg_X7_does : xTgt yX7_does cX7_does 3 (some .int) 1 := ⟨ww_736, ww_574, by decide, by decide +kernel, by decide +kernel⟩
section
variable {Γ : xG} {p : Program} {l : Launch} {e : Env} {s : State} {m : MethodId} {args : Array Value} {below : List Frame} {meth : Method} {c : Code} {rF : Int32 ⊕ String} {wF : xW}
end
set_option maxRecDepth 100000 in
set_option maxHeartbeats 4000000 in
theorem ct_X7_does {Γ : xG} {l : Launch} (hl : l.stackTraces = false) (a0 : Nat) (x1 : Int32) (w0 : xW) (rF : Int32 ⊕ String) (wF : xW) (hyp : f_X7_does a0 x1 w0 = some (rF, wF)) : xMet Γ l yX7_does (xws yX7_does cX7_does 3 (some .int)) 3 xI [.ref a0, .int x1] w0 rF wF (x_mc rF) (x_ms rF) := by
  refine xOfW tg_X7_does hl (lv0 := [(0, .ref a0), (1, .int x1)]) (Nat.le_of_ble_eq_true rfl) rfl ?_
  intro p e s m below meth c G hno hin
  rw [f_X7_does] at hyp
  refine r_bipush (v := 7) G dX7_does_0 (by decide) ?_
  refine r_iload_n G 1 dX7_does_2 rfl rfl ?_
  refine r_imul G dX7_does_3 ?_
  refine r_istore_n (lv' := [(2, .int (7 * x1)), (0, .ref a0), (1, .int x1)]) G dX7_does_4 rfl (by decide) ⟨fun _ => rfl, fun _ => rfl, trivial⟩ rfl ?_
  refine r_aload_n G 1 dX7_does_5 rfl rfl ?_
  obtain ⟨v1, hv1, hyp⟩ := x_some hyp
  refine r_getv (C := RX7) (T := TX7) (N := 22) (ci := 7) G 8 (x_getr_e hv1) rfl uw_7 (Nat.le_of_ble_eq_true rfl) rfl ww_566 dX7_does_6 ?_
  refine r_iload_n G 0 dX7_does_9 rfl rfl ?_
  refine r_ref hyp (fun a2 ha2 hz => ?_)
  clear hyp; subst ha2; have hyp := hz; clear hz
  obtain ⟨v3, hv3, hyp⟩ := x_some hyp
  refine r_iald G hv3 dX7_does_10 ?_
  rcases x_if hyp with ⟨k4, hyp⟩ | ⟨k4, hyp⟩
  · refine r_tabK G 101 k4 151 dX7_does_11 (by decide) (by decide) rfl (by decide) ?_
    refine r_aload_n G 1 dX7_does_151 rfl rfl ?_
    refine r_aload_n G 1 dX7_does_152 rfl rfl ?_
    obtain ⟨v5, hv5, hyp⟩ := x_some hyp
    refine r_getv (C := RX7) (T := TX7) (N := 22) (ci := 7) G 8 (x_getr_e hv5) rfl uw_7 (Nat.le_of_ble_eq_true rfl) rfl ww_566 dX7_does_153 ?_
    refine r_iload_n G 0 dX7_does_156 rfl rfl ?_
    refine r_iconst (v := 1) G dX7_does_157 (by decide) ?_
    refine r_iadd G dX7_does_158 ?_
    refine r_ref hyp (fun a6 ha6 hz => ?_)
    clear hyp; subst ha6; have hyp := hz; clear hz
    obtain ⟨v7, hv7, hyp⟩ := x_some hyp
    refine r_iald G hv7 dX7_does_159 ?_
    refine r_aload_n G 1 dX7_does_160 rfl rfl ?_
    obtain ⟨v8, hv8, hyp⟩ := x_some hyp
    refine r_getv (C := RX7) (T := TX7) (N := 22) (ci := 7) G 8 (x_getr_e hv8) rfl uw_7 (Nat.le_of_ble_eq_true rfl) rfl ww_566 dX7_does_161 ?_
    refine r_iload_n G 0 dX7_does_164 rfl rfl ?_
    refine r_iconst (v := 2) G dX7_does_165 (by decide) ?_
    refine r_iadd G dX7_does_166 ?_
    refine r_ref hyp (fun a9 ha9 hz => ?_)
    clear hyp; subst ha9; have hyp := hz; clear hz
    obtain ⟨v10, hv10, hyp⟩ := x_some hyp
    refine r_iald G hv10 dX7_does_167 ?_
    refine r_aload_n G 1 dX7_does_168 rfl rfl ?_
    obtain ⟨v11, hv11, hyp⟩ := x_some hyp
    refine r_getv (C := RX7) (T := TX7) (N := 22) (ci := 7) G 8 (x_getr_e hv11) rfl uw_7 (Nat.le_of_ble_eq_true rfl) rfl ww_566 dX7_does_169 ?_
    refine r_iload_n G 0 dX7_does_172 rfl rfl ?_
    refine r_iconst (v := 3) G dX7_does_173 (by decide) ?_
    refine r_iadd G dX7_does_174 ?_
    refine r_ref hyp (fun a12 ha12 hz => ?_)
    clear hyp; subst ha12; have hyp := hz; clear hz
    obtain ⟨v13, hv13, hyp⟩ := x_some hyp
    refine r_iald G hv13 dX7_does_175 ?_
    refine r_aload_n G 1 dX7_does_176 rfl rfl ?_
    obtain ⟨v14, hv14, hyp⟩ := x_some hyp
    refine r_getv (C := RX7) (T := TX7) (N := 22) (ci := 7) G 8 (x_getr_e hv14) rfl uw_7 (Nat.le_of_ble_eq_true rfl) rfl ww_566 dX7_does_177 ?_
    refine r_iload_n G 0 dX7_does_180 rfl rfl ?_
    refine r_iconst (v := 4) G dX7_does_181 (by decide) ?_
    refine r_iadd G dX7_does_182 ?_
    refine r_ref hyp (fun a15 ha15 hz => ?_)
    clear hyp; subst ha15; have hyp := hz; clear hz
    obtain ⟨v16, hv16, hyp⟩ := x_some hyp
    refine r_iald G hv16 dX7_does_183 ?_
    obtain ⟨o19, hyp⟩ := x_chk hyp
    refine r_callV (ι := xI) (T := TX7) (N := 22) (ci := 7) (b := a0) (rest := []) (As := [.int v7, .int v10, .int v13, .int v16]) G hno tg_X7_erases (fun r w' h => ct_X7_erases (xhl G) _ _ _ _ _ _ r w' h) o19 hyp rfl ww_721 ww_723 ww_722 (by decide) (by decide) rfl rfl (xroom (Nat.le_of_ble_eq_true rfl)) dX7_does_184 (push := (fun r18 => [.int r18])) (fun _ => rfl) (fun r18 w17 hyp => ?_)
    exact r_iret G hyp rfl (Nat.zero_le _) (Nat.zero_le _) dX7_does_187
  rcases x_if hyp with ⟨k20, hyp⟩ | ⟨k20, hyp⟩
  · refine r_tabK G 104 k20 188 dX7_does_11 (by decide) (by decide) rfl (by decide) ?_
    refine r_aload_n G 1 dX7_does_188 rfl rfl ?_
    refine r_aload_n G 1 dX7_does_189 rfl rfl ?_
    obtain ⟨v21, hv21, hyp⟩ := x_some hyp
    refine r_getv (C := RX7) (T := TX7) (N := 22) (ci := 7) G 8 (x_getr_e hv21) rfl uw_7 (Nat.le_of_ble_eq_true rfl) rfl ww_566 dX7_does_190 ?_
    refine r_iload_n G 0 dX7_does_193 rfl rfl ?_
    refine r_iconst (v := 1) G dX7_does_194 (by decide) ?_
    refine r_iadd G dX7_does_195 ?_
    refine r_ref hyp (fun a22 ha22 hz => ?_)
    clear hyp; subst ha22; have hyp := hz; clear hz
    obtain ⟨v23, hv23, hyp⟩ := x_some hyp
    refine r_iald G hv23 dX7_does_196 ?_
    refine r_iconst (v := 0) G dX7_does_197 (by decide) ?_
    obtain ⟨o26, hyp⟩ := x_chk hyp
    refine r_callV (ι := xI) (T := TX7) (N := 22) (ci := 7) (b := a0) (rest := []) (As := [.int v23, .int 0]) G hno tg_X7_turns (fun r w' h => ct_X7_turns (xhl G) _ _ _ _ r w' h) o26 hyp rfl ww_724 ww_726 ww_725 (by decide) (by decide) rfl rfl (xroom (Nat.le_of_ble_eq_true rfl)) dX7_does_198 (push := (fun r25 => [.int r25])) (fun _ => rfl) (fun r25 w24 hyp => ?_)
    exact r_iret G hyp rfl (Nat.zero_le _) (Nat.zero_le _) dX7_does_201
  rcases x_if hyp with ⟨k27, hyp⟩ | ⟨k27, hyp⟩
  · refine r_tabK G 108 k27 84 dX7_does_11 (by decide) (by decide) rfl (by decide) ?_
    refine r_aload_n G 1 dX7_does_84 rfl rfl ?_
    refine r_aload_n G 1 dX7_does_85 rfl rfl ?_
    obtain ⟨v28, hv28, hyp⟩ := x_some hyp
    refine r_getv (C := RX7) (T := TX7) (N := 22) (ci := 7) G 8 (x_getr_e hv28) rfl uw_7 (Nat.le_of_ble_eq_true rfl) rfl ww_566 dX7_does_86 ?_
    refine r_iload_n G 0 dX7_does_89 rfl rfl ?_
    refine r_iconst (v := 1) G dX7_does_90 (by decide) ?_
    refine r_iadd G dX7_does_91 ?_
    refine r_ref hyp (fun a29 ha29 hz => ?_)
    clear hyp; subst ha29; have hyp := hz; clear hz
    obtain ⟨v30, hv30, hyp⟩ := x_some hyp
    refine r_iald G hv30 dX7_does_92 ?_
    obtain ⟨o33, hyp⟩ := x_chk hyp
    refine r_callV (ι := xI) (T := TX7) (N := 22) (ci := 7) (b := a0) (rest := []) (As := [.int v30]) G hno tg_X7_adds (fun r w' h => ct_X7_adds (xhl G) _ _ _ r w' h) o33 hyp rfl ww_607 ww_609 ww_608 (by decide) (by decide) rfl rfl (xroom (Nat.le_of_ble_eq_true rfl)) dX7_does_93 (push := (fun r32 => [.int r32])) (fun _ => rfl) (fun r32 w31 hyp => ?_)
    exact r_iret G hyp rfl (Nat.zero_le _) (Nat.zero_le _) dX7_does_96
  rcases x_if hyp with ⟨k34, hyp⟩ | ⟨k34, hyp⟩
  · refine r_tabK G 109 k34 237 dX7_does_11 (by decide) (by decide) rfl (by decide) ?_
    refine r_aload_n G 1 dX7_does_237 rfl rfl ?_
    refine r_aload_n G 1 dX7_does_238 rfl rfl ?_
    obtain ⟨v35, hv35, hyp⟩ := x_some hyp
    refine r_getv (C := RX7) (T := TX7) (N := 22) (ci := 7) G 8 (x_getr_e hv35) rfl uw_7 (Nat.le_of_ble_eq_true rfl) rfl ww_566 dX7_does_239 ?_
    refine r_iload_n G 0 dX7_does_242 rfl rfl ?_
    refine r_iconst (v := 1) G dX7_does_243 (by decide) ?_
    refine r_iadd G dX7_does_244 ?_
    refine r_ref hyp (fun a36 ha36 hz => ?_)
    clear hyp; subst ha36; have hyp := hz; clear hz
    obtain ⟨v37, hv37, hyp⟩ := x_some hyp
    refine r_iald G hv37 dX7_does_245 ?_
    obtain ⟨o40, hyp⟩ := x_chk hyp
    refine r_callV (ι := xI) (T := TX7) (N := 22) (ci := 7) (b := a0) (rest := []) (As := [.int v37]) G hno tg_X7_merges (fun r w' h => ct_X7_merges (xhl G) _ _ _ r w' h) o40 hyp rfl ww_727 ww_729 ww_728 (by decide) (by decide) rfl rfl (xroom (Nat.le_of_ble_eq_true rfl)) dX7_does_246 (push := (fun r39 => [.int r39])) (fun _ => rfl) (fun r39 w38 hyp => ?_)
    exact r_iret G hyp rfl (Nat.zero_le _) (Nat.zero_le _) dX7_does_249
  rcases x_if hyp with ⟨k41, hyp⟩ | ⟨k41, hyp⟩
  · refine r_tabK G 111 k41 216 dX7_does_11 (by decide) (by decide) rfl (by decide) ?_
    refine r_aload_n G 1 dX7_does_216 rfl rfl ?_
    refine r_aload_n G 1 dX7_does_217 rfl rfl ?_
    obtain ⟨v42, hv42, hyp⟩ := x_some hyp
    refine r_getv (C := RX7) (T := TX7) (N := 22) (ci := 7) G 8 (x_getr_e hv42) rfl uw_7 (Nat.le_of_ble_eq_true rfl) rfl ww_566 dX7_does_218 ?_
    refine r_iload_n G 0 dX7_does_221 rfl rfl ?_
    refine r_iconst (v := 1) G dX7_does_222 (by decide) ?_
    refine r_iadd G dX7_does_223 ?_
    refine r_ref hyp (fun a43 ha43 hz => ?_)
    clear hyp; subst ha43; have hyp := hz; clear hz
    obtain ⟨v44, hv44, hyp⟩ := x_some hyp
    refine r_iald G hv44 dX7_does_224 ?_
    refine r_aload_n G 1 dX7_does_225 rfl rfl ?_
    obtain ⟨v45, hv45, hyp⟩ := x_some hyp
    refine r_getv (C := RX7) (T := TX7) (N := 22) (ci := 7) G 8 (x_getr_e hv45) rfl uw_7 (Nat.le_of_ble_eq_true rfl) rfl ww_566 dX7_does_226 ?_
    refine r_iload_n G 0 dX7_does_229 rfl rfl ?_
    refine r_iconst (v := 2) G dX7_does_230 (by decide) ?_
    refine r_iadd G dX7_does_231 ?_
    refine r_ref hyp (fun a46 ha46 hz => ?_)
    clear hyp; subst ha46; have hyp := hz; clear hz
    obtain ⟨v47, hv47, hyp⟩ := x_some hyp
    refine r_iald G hv47 dX7_does_232 ?_
    obtain ⟨o50, hyp⟩ := x_chk hyp
    refine r_callV (ι := xI) (T := TX7) (N := 22) (ci := 7) (b := a0) (rest := []) (As := [.int v44, .int v47]) G hno tg_X7_moves (fun r w' h => ct_X7_moves (xhl G) _ _ _ _ r w' h) o50 hyp rfl ww_730 ww_732 ww_731 (by decide) (by decide) rfl rfl (xroom (Nat.le_of_ble_eq_true rfl)) dX7_does_233 (push := (fun r49 => [.int r49])) (fun _ => rfl) (fun r49 w48 hyp => ?_)
    exact r_iret G hyp rfl (Nat.zero_le _) (Nat.zero_le _) dX7_does_236
  rcases x_if hyp with ⟨k51, hyp⟩ | ⟨k51, hyp⟩
  · refine r_tabK G 112 k51 97 dX7_does_11 (by decide) (by decide) rfl (by decide) ?_
    refine r_aload_n G 1 dX7_does_97 rfl rfl ?_
    refine r_aload_n G 1 dX7_does_98 rfl rfl ?_
    obtain ⟨v52, hv52, hyp⟩ := x_some hyp
    refine r_getv (C := RX7) (T := TX7) (N := 22) (ci := 7) G 8 (x_getr_e hv52) rfl uw_7 (Nat.le_of_ble_eq_true rfl) rfl ww_566 dX7_does_99 ?_
    refine r_iload_n G 0 dX7_does_102 rfl rfl ?_
    refine r_iconst (v := 1) G dX7_does_103 (by decide) ?_
    refine r_iadd G dX7_does_104 ?_
    refine r_ref hyp (fun a53 ha53 hz => ?_)
    clear hyp; subst ha53; have hyp := hz; clear hz
    obtain ⟨v54, hv54, hyp⟩ := x_some hyp
    refine r_iald G hv54 dX7_does_105 ?_
    refine r_aload_n G 1 dX7_does_106 rfl rfl ?_
    obtain ⟨v55, hv55, hyp⟩ := x_some hyp
    refine r_getv (C := RX7) (T := TX7) (N := 22) (ci := 7) G 8 (x_getr_e hv55) rfl uw_7 (Nat.le_of_ble_eq_true rfl) rfl ww_566 dX7_does_107 ?_
    refine r_iload_n G 0 dX7_does_110 rfl rfl ?_
    refine r_iconst (v := 2) G dX7_does_111 (by decide) ?_
    refine r_iadd G dX7_does_112 ?_
    refine r_ref hyp (fun a56 ha56 hz => ?_)
    clear hyp; subst ha56; have hyp := hz; clear hz
    obtain ⟨v57, hv57, hyp⟩ := x_some hyp
    refine r_iald G hv57 dX7_does_113 ?_
    refine r_aload_n G 1 dX7_does_114 rfl rfl ?_
    obtain ⟨v58, hv58, hyp⟩ := x_some hyp
    refine r_getv (C := RX7) (T := TX7) (N := 22) (ci := 7) G 8 (x_getr_e hv58) rfl uw_7 (Nat.le_of_ble_eq_true rfl) rfl ww_566 dX7_does_115 ?_
    refine r_iload_n G 0 dX7_does_118 rfl rfl ?_
    refine r_iconst (v := 3) G dX7_does_119 (by decide) ?_
    refine r_iadd G dX7_does_120 ?_
    refine r_ref hyp (fun a59 ha59 hz => ?_)
    clear hyp; subst ha59; have hyp := hz; clear hz
    obtain ⟨v60, hv60, hyp⟩ := x_some hyp
    refine r_iald G hv60 dX7_does_121 ?_
    refine r_aload_n G 1 dX7_does_122 rfl rfl ?_
    obtain ⟨v61, hv61, hyp⟩ := x_some hyp
    refine r_getv (C := RX7) (T := TX7) (N := 22) (ci := 7) G 8 (x_getr_e hv61) rfl uw_7 (Nat.le_of_ble_eq_true rfl) rfl ww_566 dX7_does_123 ?_
    refine r_iload_n G 0 dX7_does_126 rfl rfl ?_
    refine r_iconst (v := 4) G dX7_does_127 (by decide) ?_
    refine r_iadd G dX7_does_128 ?_
    refine r_ref hyp (fun a62 ha62 hz => ?_)
    clear hyp; subst ha62; have hyp := hz; clear hz
    obtain ⟨v63, hv63, hyp⟩ := x_some hyp
    refine r_iald G hv63 dX7_does_129 ?_
    refine r_aload_n G 1 dX7_does_130 rfl rfl ?_
    obtain ⟨v64, hv64, hyp⟩ := x_some hyp
    refine r_getv (C := RX7) (T := TX7) (N := 22) (ci := 7) G 8 (x_getr_e hv64) rfl uw_7 (Nat.le_of_ble_eq_true rfl) rfl ww_566 dX7_does_131 ?_
    refine r_iload_n G 0 dX7_does_134 rfl rfl ?_
    refine r_iconst (v := 5) G dX7_does_135 (by decide) ?_
    refine r_iadd G dX7_does_136 ?_
    refine r_ref hyp (fun a65 ha65 hz => ?_)
    clear hyp; subst ha65; have hyp := hz; clear hz
    obtain ⟨v66, hv66, hyp⟩ := x_some hyp
    refine r_iald G hv66 dX7_does_137 ?_
    refine r_aload_n G 1 dX7_does_138 rfl rfl ?_
    obtain ⟨v67, hv67, hyp⟩ := x_some hyp
    refine r_getv (C := RX7) (T := TX7) (N := 22) (ci := 7) G 8 (x_getr_e hv67) rfl uw_7 (Nat.le_of_ble_eq_true rfl) rfl ww_566 dX7_does_139 ?_
    refine r_iload_n G 0 dX7_does_142 rfl rfl ?_
    refine r_bipush (v := 6) G dX7_does_143 (by decide) ?_
    refine r_iadd G dX7_does_145 ?_
    refine r_ref hyp (fun a68 ha68 hz => ?_)
    clear hyp; subst ha68; have hyp := hz; clear hz
    obtain ⟨v69, hv69, hyp⟩ := x_some hyp
    refine r_iald G hv69 dX7_does_146 ?_
    obtain ⟨o72, hyp⟩ := x_chk hyp
    refine r_callV (ι := xI) (T := TX7) (N := 22) (ci := 7) (b := a0) (rest := []) (As := [.int v54, .int v57, .int v60, .int v63, .int v66, .int v69]) G hno tg_X7_paints (fun r w' h => ct_X7_paints (xhl G) _ _ _ _ _ _ _ _ r w' h) o72 hyp rfl ww_733 ww_735 ww_734 (by decide) (by decide) rfl rfl (xroom (Nat.le_of_ble_eq_true rfl)) dX7_does_147 (push := (fun r71 => [.int r71])) (fun _ => rfl) (fun r71 w70 hyp => ?_)
    exact r_iret G hyp rfl (Nat.zero_le _) (Nat.zero_le _) dX7_does_150
  rcases x_if hyp with ⟨k73, hyp⟩ | ⟨k73, hyp⟩
  · refine r_tabK G 115 k73 202 dX7_does_11 (by decide) (by decide) rfl (by decide) ?_
    refine r_aload_n G 1 dX7_does_202 rfl rfl ?_
    refine r_aload_n G 1 dX7_does_203 rfl rfl ?_
    obtain ⟨v74, hv74, hyp⟩ := x_some hyp
    refine r_getv (C := RX7) (T := TX7) (N := 22) (ci := 7) G 8 (x_getr_e hv74) rfl uw_7 (Nat.le_of_ble_eq_true rfl) rfl ww_566 dX7_does_204 ?_
    refine r_iload_n G 0 dX7_does_207 rfl rfl ?_
    refine r_iconst (v := 1) G dX7_does_208 (by decide) ?_
    refine r_iadd G dX7_does_209 ?_
    refine r_ref hyp (fun a75 ha75 hz => ?_)
    clear hyp; subst ha75; have hyp := hz; clear hz
    obtain ⟨v76, hv76, hyp⟩ := x_some hyp
    refine r_iald G hv76 dX7_does_210 ?_
    refine r_iconst (v := 1) G dX7_does_211 (by decide) ?_
    obtain ⟨o79, hyp⟩ := x_chk hyp
    refine r_callV (ι := xI) (T := TX7) (N := 22) (ci := 7) (b := a0) (rest := []) (As := [.int v76, .int 1]) G hno tg_X7_turns (fun r w' h => ct_X7_turns (xhl G) _ _ _ _ r w' h) o79 hyp rfl ww_724 ww_726 ww_725 (by decide) (by decide) rfl rfl (xroom (Nat.le_of_ble_eq_true rfl)) dX7_does_212 (push := (fun r78 => [.int r78])) (fun _ => rfl) (fun r78 w77 hyp => ?_)
    exact r_iret G hyp rfl (Nat.zero_le _) (Nat.zero_le _) dX7_does_215
  refine r_tabD G [101, 104, 108, 109, 111, 112, 115] (by intro k hk; simp only [List.mem_cons, List.not_mem_nil, or_false] at hk; rcases hk with rfl | rfl | rfl | rfl | rfl | rfl | rfl <;> assumption) 250 dX7_does_11 (by decide) (by decide) ?_
  refine r_aload_n G 1 dX7_does_250 rfl rfl ?_
  refine r_aload_n G 1 dX7_does_251 rfl rfl ?_
  obtain ⟨v80, hv80, hyp⟩ := x_some hyp
  refine r_getv (C := RX7) (T := TX7) (N := 22) (ci := 7) G 8 (x_getr_e hv80) rfl uw_7 (Nat.le_of_ble_eq_true rfl) rfl ww_566 dX7_does_252 ?_
  refine r_iload_n G 0 dX7_does_255 rfl rfl ?_
  refine r_iconst (v := 1) G dX7_does_256 (by decide) ?_
  refine r_iadd G dX7_does_257 ?_
  refine r_ref hyp (fun a81 ha81 hz => ?_)
  clear hyp; subst ha81; have hyp := hz; clear hz
  obtain ⟨v82, hv82, hyp⟩ := x_some hyp
  refine r_iald G hv82 dX7_does_258 ?_
  refine r_aload_n G 1 dX7_does_259 rfl rfl ?_
  obtain ⟨v83, hv83, hyp⟩ := x_some hyp
  refine r_getv (C := RX7) (T := TX7) (N := 22) (ci := 7) G 8 (x_getr_e hv83) rfl uw_7 (Nat.le_of_ble_eq_true rfl) rfl ww_566 dX7_does_260 ?_
  refine r_iload_n G 0 dX7_does_263 rfl rfl ?_
  refine r_iconst (v := 2) G dX7_does_264 (by decide) ?_
  refine r_iadd G dX7_does_265 ?_
  refine r_ref hyp (fun a84 ha84 hz => ?_)
  clear hyp; subst ha84; have hyp := hz; clear hz
  obtain ⟨v85, hv85, hyp⟩ := x_some hyp
  refine r_iald G hv85 dX7_does_266 ?_
  obtain ⟨o88, hyp⟩ := x_chk hyp
  refine r_callV (ι := xI) (T := TX7) (N := 22) (ci := 7) (b := a0) (rest := []) (As := [.int v82, .int v85]) G hno tg_X7_casts (fun r w' h => ct_X7_casts (xhl G) _ _ _ _ r w' h) o88 hyp rfl ww_685 ww_687 ww_686 (by decide) (by decide) rfl rfl (xroom (Nat.le_of_ble_eq_true rfl)) dX7_does_267 (push := (fun r87 => [.int r87])) (fun _ => rfl) (fun r87 w86 hyp => ?_)
  exact r_iret G hyp rfl (Nat.zero_le _) (Nat.zero_le _) dX7_does_270
theorem tg_X7_drops : xTgt yX7_drops cX7_drops 2 (some .int) 1 := ⟨ww_737, ww_574, by decide, by decide +kernel, by decide +kernel⟩
section
variable {Γ : xG} {p : Program} {l : Launch} {e : Env} {s : State} {m : MethodId} {args : Array Value} {below : List Frame} {meth : Method} {c : Code} {rF : Int32 ⊕ String} {wF : xW}
end
set_option maxRecDepth 100000 in
set_option maxHeartbeats 4000000 in
theorem ct_X7_drops {Γ : xG} {l : Launch} (hl : l.stackTraces = false) (a0 : Nat) (x1 : Int32) (w0 : xW) (rF : Int32 ⊕ String) (wF : xW) (hyp : f_X7_drops a0 x1 w0 = some (rF, wF)) : xMet Γ l yX7_drops (xws yX7_drops cX7_drops 2 (some .int)) 2 xI [.ref a0, .int x1] w0 rF wF (x_mc rF) (x_ms rF) := by
  refine xOfW tg_X7_drops hl (lv0 := [(0, .ref a0), (1, .int x1)]) (Nat.le_of_ble_eq_true rfl) rfl ?_
  intro p e s m below meth c G hno hin
  rw [f_X7_drops] at hyp
  refine r_aload_n G 0 dX7_drops_0 rfl rfl ?_
  refine r_iload_n G 1 dX7_drops_1 rfl rfl ?_
  obtain ⟨o3, hyp⟩ := x_chk hyp
  refine r_callV (ι := xI) (T := TX7) (N := 22) (ci := 7) (b := a0) (rest := []) (As := [.int x1]) G hno tg_X7_isLayer (fun r w' h => ct_X7_isLayer (xhl G) _ _ _ r w' h) o3 hyp rfl ww_678 ww_680 ww_679 (by decide) (by decide) rfl rfl (xroom (Nat.le_of_ble_eq_true rfl)) dX7_drops_2 (push := (fun r2 => [.int r2])) (fun _ => rfl) (fun r2 w1 hyp => ?_)
  refine r_if_ne G 10 dX7_drops_5 (by decide) hyp (fun c4 hyp => ?_) (fun c4 hyp => ?_)
  · refine r_aload_n G 0 dX7_drops_10 rfl rfl ?_
    refine r_iload_n G 1 dX7_drops_11 rfl rfl ?_
    obtain ⟨o7, hyp⟩ := x_chk hyp
    refine r_callV (ι := xV) (T := TX7) (N := 22) (ci := 7) (b := a0) (rest := []) (As := [.int x1]) G hno tg_X7_takes (fun r w' h => ct_X7_takes (xhl G) _ _ _ r w' h) o7 hyp rfl ww_710 ww_712 ww_711 (by decide) (by decide) rfl rfl (xroom (Nat.le_of_ble_eq_true rfl)) dX7_drops_12 (push := (fun _ => [])) (fun _ => rfl) (fun _ w5 hyp => ?_)
    refine r_aload_n G 0 dX7_drops_15 rfl rfl ?_
    refine r_aload_n G 0 dX7_drops_16 rfl rfl ?_
    obtain ⟨v8, hv8, hyp⟩ := x_some hyp
    refine r_getv (C := RX7) (T := TX7) (N := 22) (ci := 7) G 1 (x_getr_e hv8) rfl uw_7 (Nat.le_of_ble_eq_true rfl) rfl ww_561 dX7_drops_17 ?_
    refine r_iconst (v := 0) G dX7_drops_20 (by decide) ?_
    refine r_ref hyp (fun a9 ha9 hz => ?_)
    clear hyp; subst ha9; have hyp := hz; clear hz
    obtain ⟨v10, hv10, hyp⟩ := x_some hyp
    refine r_iald G hv10 dX7_drops_21 ?_
    obtain ⟨o13, hyp⟩ := x_chk hyp
    refine r_callV (ι := xI) (T := TX7) (N := 22) (ci := 7) (b := a0) (rest := []) (As := [.int v10]) G hno tg_X7_done (fun r w' h => ct_X7_done (xhl G) _ _ _ r w' h) o13 hyp rfl ww_588 ww_590 ww_589 (by decide) (by decide) rfl rfl (xroom (Nat.le_of_ble_eq_true rfl)) dX7_drops_22 (push := (fun r12 => [.int r12])) (fun _ => rfl) (fun r12 w11 hyp => ?_)
    exact r_iret G hyp rfl (Nat.zero_le _) (Nat.zero_le _) dX7_drops_25
  · refine r_iconst (v := 1) G dX7_drops_8 (by decide) ?_
    exact r_iret G hyp rfl (Nat.zero_le _) (Nat.zero_le _) dX7_drops_9
theorem tg_X7_erase : xTgt yX7_erase cX7_erase 5 (some .int) 4 := ⟨ww_738, ww_574, by decide, by decide +kernel, by decide +kernel⟩
section
variable {Γ : xG} {p : Program} {l : Launch} {e : Env} {s : State} {m : MethodId} {args : Array Value} {below : List Frame} {meth : Method} {c : Code} {rF : Int32 ⊕ String} {wF : xW}
end
set_option maxRecDepth 100000 in
set_option maxHeartbeats 4000000 in
theorem ct_X7_erase {Γ : xG} {l : Launch} (hl : l.stackTraces = false) (a0 : Nat) (x1 : Int32) (x2 : Int32) (x3 : Int32) (x4 : Int32) (w0 : xW) (rF : Int32 ⊕ String) (wF : xW) (hyp : f_X7_erase a0 x1 x2 x3 x4 w0 = some (rF, wF)) : xMet Γ l yX7_erase (xws yX7_erase cX7_erase 5 (some .int)) 3 xI [.ref a0, .int x1, .int x2, .int x3, .int x4] w0 rF wF (x_mc rF) (x_ms rF) := by
  refine xOfW tg_X7_erase hl (lv0 := [(0, .ref a0), (1, .int x1), (2, .int x2), (3, .int x3), (4, .int x4)]) (Nat.le_of_ble_eq_true rfl) rfl ?_
  intro p e s m below meth c G hno hin
  rw [f_X7_erase] at hyp
  refine r_aload_n G 0 dX7_erase_0 rfl rfl ?_
  obtain ⟨o3, hyp⟩ := x_chk hyp
  refine r_callV (ι := xV) (T := TX7) (N := 22) (ci := 7) (b := a0) (rest := []) (As := []) G hno tg_X7_remembers (fun r w' h => ct_X7_remembers (xhl G) _ _ r w' h) o3 hyp rfl ww_604 ww_606 ww_605 (by decide) (by decide) rfl rfl (xroom (Nat.le_of_ble_eq_true rfl)) dX7_erase_1 (push := (fun _ => [])) (fun _ => rfl) (fun _ w1 hyp => ?_)
  refine r_aload_n G 0 dX7_erase_4 rfl rfl ?_
  refine r_aload_n G 0 dX7_erase_5 rfl rfl ?_
  refine r_iload_n G 1 dX7_erase_6 rfl rfl ?_
  refine r_iload_n G 2 dX7_erase_7 rfl rfl ?_
  refine r_iload_n G 3 dX7_erase_8 rfl rfl ?_
  refine r_iload G 4 dX7_erase_9 rfl ?_
  obtain ⟨o6, hyp⟩ := x_chk hyp
  refine r_callV (ι := xI) (T := TX7) (N := 22) (ci := 7) (b := a0) (rest := [.ref a0]) (As := [.int x1, .int x2, .int x3, .int x4]) G hno tg_X7_erases (fun r w' h => ct_X7_erases (xhl G) _ _ _ _ _ _ r w' h) o6 hyp rfl ww_721 ww_723 ww_722 (by decide) (by decide) rfl rfl (xroom (Nat.le_of_ble_eq_true rfl)) dX7_erase_11 (push := (fun r5 => [.int r5, .ref a0])) (fun _ => rfl) (fun r5 w4 hyp => ?_)
  obtain ⟨o9, hyp⟩ := x_chk hyp
  refine r_callV (ι := xI) (T := TX7) (N := 22) (ci := 7) (b := a0) (rest := []) (As := [.int r5]) G hno tg_X7_ends (fun r w' h => ct_X7_ends (xhl G) _ _ _ r w' h) o9 hyp rfl ww_610 ww_612 ww_611 (by decide) (by decide) rfl rfl (xroom (Nat.le_of_ble_eq_true rfl)) dX7_erase_14 (push := (fun r8 => [.int r8])) (fun _ => rfl) (fun r8 w7 hyp => ?_)
  exact r_iret G hyp rfl (Nat.zero_le _) (Nat.zero_le _) dX7_erase_17
theorem tg_X7_erasedCells : xTgt yX7_erasedCells cX7_erasedCells 1 (some .int) 0 := ⟨ww_739, ww_574, by decide, by decide +kernel, by decide +kernel⟩
section
variable {Γ : xG} {p : Program} {l : Launch} {e : Env} {s : State} {m : MethodId} {args : Array Value} {below : List Frame} {meth : Method} {c : Code} {rF : Int32 ⊕ String} {wF : xW}
end
set_option maxRecDepth 100000 in
set_option maxHeartbeats 4000000 in
theorem ct_X7_erasedCells {Γ : xG} {l : Launch} (hl : l.stackTraces = false) (a0 : Nat) (w0 : xW) (rF : Int32 ⊕ String) (wF : xW) (hyp : f_X7_erasedCells a0 w0 = some (rF, wF)) : xMet Γ l yX7_erasedCells (xws yX7_erasedCells cX7_erasedCells 1 (some .int)) 0 xI [.ref a0] w0 rF wF (x_mc rF) (x_ms rF) := by
  refine xOfW tg_X7_erasedCells hl (lv0 := [(0, .ref a0)]) (Nat.le_of_ble_eq_true rfl) rfl ?_
  intro p e s m below meth c G hno hin
  rw [f_X7_erasedCells] at hyp
  refine r_aload_n G 0 dX7_erasedCells_0 rfl rfl ?_
  refine r_iconst (v := 0) G dX7_erasedCells_1 (by decide) ?_
  obtain ⟨w1, hw1, hyp⟩ := x_some hyp
  refine r_putv (C := RX7) (T := TX7) (N := 22) (ci := 7) G tyX7 tyX7_ok nmX7 0 hw1 rfl uw_7 (Nat.le_of_ble_eq_true rfl) rfl ww_594 rfl rfl rfl dX7_erasedCells_2 ?_
  refine r_aload_n G 0 dX7_erasedCells_5 rfl rfl ?_
  obtain ⟨v2, hv2, hyp⟩ := x_some hyp
  refine r_getv (C := RX7) (T := TX7) (N := 22) (ci := 7) G 1 (x_getr_e hv2) rfl uw_7 (Nat.le_of_ble_eq_true rfl) rfl ww_561 dX7_erasedCells_6 ?_
  refine r_iconst (v := 2) G dX7_erasedCells_9 (by decide) ?_
  refine r_ref hyp (fun a3 ha3 hz => ?_)
  clear hyp; subst ha3; have hyp := hz; clear hz
  obtain ⟨v4, hv4, hyp⟩ := x_some hyp
  refine r_iald G hv4 dX7_erasedCells_10 ?_
  exact r_iret G hyp rfl (Nat.zero_le _) (Nat.zero_le _) dX7_erasedCells_11
theorem tg_X7_errorPosition : xTgt yX7_errorPosition cX7_errorPosition 1 (some .int) 0 := ⟨ww_740, ww_574, by decide, by decide +kernel, by decide +kernel⟩
section
variable {Γ : xG} {p : Program} {l : Launch} {e : Env} {s : State} {m : MethodId} {args : Array Value} {below : List Frame} {meth : Method} {c : Code} {rF : Int32 ⊕ String} {wF : xW}
end
set_option maxRecDepth 100000 in
set_option maxHeartbeats 4000000 in
theorem ct_X7_errorPosition {Γ : xG} {l : Launch} (hl : l.stackTraces = false) (a0 : Nat) (w0 : xW) (rF : Int32 ⊕ String) (wF : xW) (hyp : f_X7_errorPosition a0 w0 = some (rF, wF)) : xMet Γ l yX7_errorPosition (xws yX7_errorPosition cX7_errorPosition 1 (some .int)) 1 xI [.ref a0] w0 rF wF (x_mc rF) (x_ms rF) := by
  refine xOfW tg_X7_errorPosition hl (lv0 := [(0, .ref a0)]) (Nat.le_of_ble_eq_true rfl) rfl ?_
  intro p e s m below meth c G hno hin
  rw [f_X7_errorPosition] at hyp
  refine r_aload_n G 0 dX7_errorPosition_0 rfl rfl ?_
  refine r_iconst (v := 0) G dX7_errorPosition_1 (by decide) ?_
  obtain ⟨w1, hw1, hyp⟩ := x_some hyp
  refine r_putv (C := RX7) (T := TX7) (N := 22) (ci := 7) G tyX7 tyX7_ok nmX7 0 hw1 rfl uw_7 (Nat.le_of_ble_eq_true rfl) rfl ww_594 rfl rfl rfl dX7_errorPosition_2 ?_
  refine r_aload_n G 0 dX7_errorPosition_5 rfl rfl ?_
  obtain ⟨v2, hv2, hyp⟩ := x_some hyp
  refine r_getv (C := RX7) (T := TX7) (N := 22) (ci := 7) G 15 (x_geti_e hv2) rfl uw_7 (Nat.le_of_ble_eq_true rfl) rfl ww_571 dX7_errorPosition_6 ?_
  refine r_iconst (v := (-1)) G dX7_errorPosition_9 (by decide) ?_
  refine r_icmp_ne G 21 dX7_errorPosition_10 (by decide) hyp (fun c3 hyp => ?_) (fun c3 hyp => ?_)
  · refine r_aload_n G 0 dX7_errorPosition_21 rfl rfl ?_
    obtain ⟨v4, hv4, hyp⟩ := x_some hyp
    refine r_getv (C := RX7) (T := TX7) (N := 22) (ci := 7) G 15 (x_geti_e hv4) rfl uw_7 (Nat.le_of_ble_eq_true rfl) rfl ww_571 dX7_errorPosition_22 ?_
    exact r_iret G hyp rfl (Nat.zero_le _) (Nat.zero_le _) dX7_errorPosition_25
  · refine r_aload_n G 0 dX7_errorPosition_13 rfl rfl ?_
    refine r_iconst (v := 1) G dX7_errorPosition_14 (by decide) ?_
    obtain ⟨o7, hyp⟩ := x_chk hyp
    refine r_callV (ι := xI) (T := TX7) (N := 22) (ci := 7) (b := a0) (rest := []) (As := [.int 1]) G hno tg_X7_fails (fun r w' h => ct_X7_fails (xhl G) _ _ _ r w' h) o7 hyp rfl ww_596 ww_598 ww_597 (by decide) (by decide) rfl rfl (xroom (Nat.le_of_ble_eq_true rfl)) dX7_errorPosition_15 (push := (fun r6 => [.int r6])) (fun _ => rfl) (fun r6 w5 hyp => ?_)
    refine r_goto G 25 dX7_errorPosition_18 (by decide) ?_
    exact r_iret G hyp rfl (Nat.zero_le _) (Nat.zero_le _) dX7_errorPosition_25
theorem tg_X7_failedCommand : xTgt yX7_failedCommand cX7_failedCommand 1 (some .int) 0 := ⟨ww_741, ww_574, by decide, by decide +kernel, by decide +kernel⟩
section
variable {Γ : xG} {p : Program} {l : Launch} {e : Env} {s : State} {m : MethodId} {args : Array Value} {below : List Frame} {meth : Method} {c : Code} {rF : Int32 ⊕ String} {wF : xW}
end
set_option maxRecDepth 100000 in
set_option maxHeartbeats 4000000 in
theorem ct_X7_failedCommand {Γ : xG} {l : Launch} (hl : l.stackTraces = false) (a0 : Nat) (w0 : xW) (rF : Int32 ⊕ String) (wF : xW) (hyp : f_X7_failedCommand a0 w0 = some (rF, wF)) : xMet Γ l yX7_failedCommand (xws yX7_failedCommand cX7_failedCommand 1 (some .int)) 1 xI [.ref a0] w0 rF wF (x_mc rF) (x_ms rF) := by
  refine xOfW tg_X7_failedCommand hl (lv0 := [(0, .ref a0)]) (Nat.le_of_ble_eq_true rfl) rfl ?_
  intro p e s m below meth c G hno hin
  rw [f_X7_failedCommand] at hyp
  refine r_aload_n G 0 dX7_failedCommand_0 rfl rfl ?_
  refine r_iconst (v := 0) G dX7_failedCommand_1 (by decide) ?_
  obtain ⟨w1, hw1, hyp⟩ := x_some hyp
  refine r_putv (C := RX7) (T := TX7) (N := 22) (ci := 7) G tyX7 tyX7_ok nmX7 0 hw1 rfl uw_7 (Nat.le_of_ble_eq_true rfl) rfl ww_594 rfl rfl rfl dX7_failedCommand_2 ?_
  refine r_aload_n G 0 dX7_failedCommand_5 rfl rfl ?_
  obtain ⟨v2, hv2, hyp⟩ := x_some hyp
  refine r_getv (C := RX7) (T := TX7) (N := 22) (ci := 7) G 16 (x_geti_e hv2) rfl uw_7 (Nat.le_of_ble_eq_true rfl) rfl ww_572 dX7_failedCommand_6 ?_
  refine r_iconst (v := (-1)) G dX7_failedCommand_9 (by decide) ?_
  refine r_icmp_ne G 21 dX7_failedCommand_10 (by decide) hyp (fun c3 hyp => ?_) (fun c3 hyp => ?_)
  · refine r_aload_n G 0 dX7_failedCommand_21 rfl rfl ?_
    obtain ⟨v4, hv4, hyp⟩ := x_some hyp
    refine r_getv (C := RX7) (T := TX7) (N := 22) (ci := 7) G 16 (x_geti_e hv4) rfl uw_7 (Nat.le_of_ble_eq_true rfl) rfl ww_572 dX7_failedCommand_22 ?_
    exact r_iret G hyp rfl (Nat.zero_le _) (Nat.zero_le _) dX7_failedCommand_25
  · refine r_aload_n G 0 dX7_failedCommand_13 rfl rfl ?_
    refine r_iconst (v := 1) G dX7_failedCommand_14 (by decide) ?_
    obtain ⟨o7, hyp⟩ := x_chk hyp
    refine r_callV (ι := xI) (T := TX7) (N := 22) (ci := 7) (b := a0) (rest := []) (As := [.int 1]) G hno tg_X7_fails (fun r w' h => ct_X7_fails (xhl G) _ _ _ r w' h) o7 hyp rfl ww_596 ww_598 ww_597 (by decide) (by decide) rfl rfl (xroom (Nat.le_of_ble_eq_true rfl)) dX7_failedCommand_15 (push := (fun r6 => [.int r6])) (fun _ => rfl) (fun r6 w5 hyp => ?_)
    refine r_goto G 25 dX7_failedCommand_18 (by decide) ?_
    exact r_iret G hyp rfl (Nat.zero_le _) (Nat.zero_le _) dX7_failedCommand_25
theorem tg_X7_feed : xTgt yX7_feed cX7_feed 2 (some .int) 1 := ⟨ww_743, ww_574, by decide, by decide +kernel, by decide +kernel⟩
section
variable {Γ : xG} {p : Program} {l : Launch} {e : Env} {s : State} {m : MethodId} {args : Array Value} {below : List Frame} {meth : Method} {c : Code} {rF : Int32 ⊕ String} {wF : xW}
set_option maxRecDepth 100000 in
set_option maxHeartbeats 4000000 in
theorem nd_X7_feed_J15 (G : xCx Γ p l s m args meth c RX7 cX7_feed 2 (some .int)) (hno : ∀ x ∈ c.exceptionTable.toList, False) (a0 : Nat) (x1 : Int32) (s0 : Int32) (s1 : Option Nat) (w0 : xW) (hyp : f_X7_feed_J15 a0 x1 s0 s1 w0 = some (rF, wF)) : xAW Γ p l e (xRm 0 (x_mc rF) (x_ms rF)) s m args below meth c 2 (xQm Γ below xI rF wF args s (x_mc rF) (x_ms rF)) w0 0 0 15 [(0, .ref a0), (1, .int x1)] [.int s0, va_rf s1] := by
  rw [f_X7_feed_J15] at hyp
  refine r_ref hyp (fun a3 ha3 hz => ?_)
  clear hyp; subst ha3; have hyp := hz; clear hz
  obtain ⟨w4, hw4, hyp⟩ := x_some hyp
  refine r_putv (C := RX7) (T := TX7) (N := 22) (ci := 7) G tyX7 tyX7_ok nmX7 0 hw4 rfl uw_7 (Nat.le_of_ble_eq_true rfl) rfl ww_594 rfl rfl rfl dX7_feed_15 ?_
  refine r_aload_n G 0 dX7_feed_18 rfl rfl ?_
  obtain ⟨v5, hv5, hyp⟩ := x_some hyp
  refine r_getv (C := RX7) (T := TX7) (N := 22) (ci := 7) G 0 (x_geti_e hv5) rfl uw_7 (Nat.le_of_ble_eq_true rfl) rfl ww_594 dX7_feed_19 ?_
  refine r_if_le G 27 dX7_feed_22 (by decide) hyp (fun c6 hyp => ?_) (fun c6 hyp => ?_)
  · refine r_aload_n G 0 dX7_feed_27 rfl rfl ?_
    obtain ⟨v7, hv7, hyp⟩ := x_some hyp
    refine r_getv (C := RX7) (T := TX7) (N := 22) (ci := 7) G 7 (x_getr_e hv7) rfl uw_7 (Nat.le_of_ble_eq_true rfl) rfl ww_565 dX7_feed_28 ?_
    refine r_aload_n G 0 dX7_feed_31 rfl rfl ?_
    obtain ⟨v8, hv8, hyp⟩ := x_some hyp
    refine r_getv (C := RX7) (T := TX7) (N := 22) (ci := 7) G 13 (x_geti_e hv8) rfl uw_7 (Nat.le_of_ble_eq_true rfl) rfl ww_742 dX7_feed_32 ?_
    refine r_iload_n G 1 dX7_feed_35 rfl rfl ?_
    refine r_ref hyp (fun a9 ha9 hz => ?_)
    clear hyp; subst ha9; have hyp := hz; clear hz
    obtain ⟨w10, hw10, hyp⟩ := x_some hyp
    refine r_iast G hw10 dX7_feed_36 ?_
    refine r_aload_n G 0 dX7_feed_37 rfl rfl ?_
    refine r_dup G dX7_feed_38 rfl ?_
    obtain ⟨v11, hv11, hyp⟩ := x_some hyp
    refine r_getv (C := RX7) (T := TX7) (N := 22) (ci := 7) G 13 (x_geti_e hv11) rfl uw_7 (Nat.le_of_ble_eq_true rfl) rfl ww_742 dX7_feed_39 ?_
    refine r_iconst (v := 1) G dX7_feed_42 (by decide) ?_
    refine r_iadd G dX7_feed_43 ?_
    obtain ⟨w12, hw12, hyp⟩ := x_some hyp
    refine r_putv (C := RX7) (T := TX7) (N := 22) (ci := 7) G tyX7 tyX7_ok nmX7 13 hw12 rfl uw_7 (Nat.le_of_ble_eq_true rfl) rfl ww_742 rfl rfl rfl dX7_feed_44 ?_
    refine r_aload_n G 0 dX7_feed_47 rfl rfl ?_
    obtain ⟨v13, hv13, hyp⟩ := x_some hyp
    refine r_getv (C := RX7) (T := TX7) (N := 22) (ci := 7) G 13 (x_geti_e hv13) rfl uw_7 (Nat.le_of_ble_eq_true rfl) rfl ww_742 dX7_feed_48 ?_
    exact r_iret G hyp rfl (Nat.zero_le _) (Nat.zero_le _) dX7_feed_51
  · refine r_iconst (v := 0) G dX7_feed_25 (by decide) ?_
    exact r_iret G hyp rfl (Nat.zero_le _) (Nat.zero_le _) dX7_feed_26
end
set_option maxRecDepth 100000 in
set_option maxHeartbeats 4000000 in
theorem ct_X7_feed {Γ : xG} {l : Launch} (hl : l.stackTraces = false) (a0 : Nat) (x1 : Int32) (w0 : xW) (rF : Int32 ⊕ String) (wF : xW) (hyp : f_X7_feed a0 x1 w0 = some (rF, wF)) : xMet Γ l yX7_feed (xws yX7_feed cX7_feed 2 (some .int)) 0 xI [.ref a0, .int x1] w0 rF wF (x_mc rF) (x_ms rF) := by
  refine xOfW tg_X7_feed hl (lv0 := [(0, .ref a0), (1, .int x1)]) (Nat.le_of_ble_eq_true rfl) rfl ?_
  intro p e s m below meth c G hno hin
  rw [f_X7_feed] at hyp
  refine r_aload_n G 0 dX7_feed_0 rfl rfl ?_
  refine r_aload_n G 0 dX7_feed_1 rfl rfl ?_
  obtain ⟨v1, hv1, hyp⟩ := x_some hyp
  refine r_getv (C := RX7) (T := TX7) (N := 22) (ci := 7) G 13 (x_geti_e hv1) rfl uw_7 (Nat.le_of_ble_eq_true rfl) rfl ww_742 dX7_feed_2 ?_
  refine r_bipush (v := 60) G dX7_feed_5 (by decide) ?_
  refine r_icmp_ne G 14 dX7_feed_7 (by decide) hyp (fun c2 hyp => ?_) (fun c2 hyp => ?_)
  · refine r_iconst (v := 0) G dX7_feed_14 (by decide) ?_
    exact nd_X7_feed_J15 G hno a0 x1 0 (some a0) w0 hyp
  · refine r_iconst (v := 1) G dX7_feed_10 (by decide) ?_
    refine r_goto G 15 dX7_feed_11 (by decide) ?_
    exact nd_X7_feed_J15 G hno a0 x1 1 (some a0) w0 hyp
theorem tg_X7_hasTone : xTgt yX7_hasTone cX7_hasTone 4 (some .boolean) 3 := ⟨ww_744, ww_574, by decide, by decide +kernel, by decide +kernel⟩
section
variable {Γ : xG} {p : Program} {l : Launch} {e : Env} {s : State} {m : MethodId} {args : Array Value} {below : List Frame} {meth : Method} {c : Code} {rF : Int32 ⊕ String} {wF : xW}
set_option maxRecDepth 100000 in
set_option maxHeartbeats 4000000 in
theorem nd_X7_hasTone_J22 (G : xCx Γ p l s m args meth c RX7 cX7_hasTone 4 (some .boolean)) (hno : ∀ x ∈ c.exceptionTable.toList, False) (a0 : Nat) (x1 : Int32) (x2 : Int32) (x3 : Int32) (s0 : Int32) (s1 : Option Nat) (w0 : xW) (hyp : f_X7_hasTone_J22 a0 x1 x2 x3 s0 s1 w0 = some (rF, wF)) : xAW Γ p l e (xRm 2 (x_mc rF) (x_ms rF)) s m args below meth c 4 (xQm Γ below xI rF wF args s (x_mc rF) (x_ms rF)) w0 0 0 22 [(0, .ref a0), (1, .int x1), (2, .int x2), (3, .int x3)] [.int s0, va_rf s1] := by
  rw [f_X7_hasTone_J22] at hyp
  refine r_ref hyp (fun a5 ha5 hz => ?_)
  clear hyp; subst ha5; have hyp := hz; clear hz
  obtain ⟨w6, hw6, hyp⟩ := x_some hyp
  refine r_putv (C := RX7) (T := TX7) (N := 22) (ci := 7) G tyX7 tyX7_ok nmX7 0 hw6 rfl uw_7 (Nat.le_of_ble_eq_true rfl) rfl ww_594 rfl rfl rfl dX7_hasTone_22 ?_
  refine r_aload_n G 0 dX7_hasTone_25 rfl rfl ?_
  obtain ⟨v7, hv7, hyp⟩ := x_some hyp
  refine r_getv (C := RX7) (T := TX7) (N := 22) (ci := 7) G 0 (x_geti_e hv7) rfl uw_7 (Nat.le_of_ble_eq_true rfl) rfl ww_594 dX7_hasTone_26 ?_
  refine r_if_ne G 50 dX7_hasTone_29 (by decide) hyp (fun c8 hyp => ?_) (fun c8 hyp => ?_)
  · refine r_iconst (v := 0) G dX7_hasTone_50 (by decide) ?_
    exact r_iret G hyp (by decide) (Nat.zero_le _) (Nat.zero_le _) dX7_hasTone_51
  · refine r_aload_n G 0 dX7_hasTone_32 rfl rfl ?_
    refine r_iload_n G 1 dX7_hasTone_33 rfl rfl ?_
    refine r_bipush (v := 8) G dX7_hasTone_34 (by decide) ?_
    refine r_iload_n G 3 dX7_hasTone_36 rfl rfl ?_
    refine r_imul G dX7_hasTone_37 ?_
    refine r_iload_n G 2 dX7_hasTone_38 rfl rfl ?_
    refine r_iadd G dX7_hasTone_39 ?_
    obtain ⟨o11, hyp⟩ := x_chk hyp
    refine r_callV (ι := xI) (T := TX7) (N := 22) (ci := 7) (b := a0) (rest := []) (As := [.int x1, .int ((8 * x3) + x2)]) G hno tg_X7_at (fun r w' h => ct_X7_at (xhl G) _ _ _ _ r w' h) o11 hyp rfl ww_621 ww_623 ww_622 (by decide) (by decide) rfl rfl (xroom (Nat.le_of_ble_eq_true rfl)) dX7_hasTone_40 (push := (fun r10 => [.int r10])) (fun _ => rfl) (fun r10 w9 hyp => ?_)
    refine r_if_le G 50 dX7_hasTone_43 (by decide) hyp (fun c12 hyp => ?_) (fun c12 hyp => ?_)
    · refine r_iconst (v := 0) G dX7_hasTone_50 (by decide) ?_
      exact r_iret G hyp (by decide) (Nat.zero_le _) (Nat.zero_le _) dX7_hasTone_51
    · refine r_iconst (v := 1) G dX7_hasTone_46 (by decide) ?_
      refine r_goto G 51 dX7_hasTone_47 (by decide) ?_
      exact r_iret G hyp (by decide) (Nat.zero_le _) (Nat.zero_le _) dX7_hasTone_51
set_option maxRecDepth 100000 in
set_option maxHeartbeats 4000000 in
theorem nd_X7_hasTone_J21 (G : xCx Γ p l s m args meth c RX7 cX7_hasTone 4 (some .boolean)) (hno : ∀ x ∈ c.exceptionTable.toList, False) (a0 : Nat) (x1 : Int32) (x2 : Int32) (x3 : Int32) (s0 : Option Nat) (w0 : xW) (hyp : f_X7_hasTone_J21 a0 x1 x2 x3 s0 w0 = some (rF, wF)) : xAW Γ p l e (xRm 2 (x_mc rF) (x_ms rF)) s m args below meth c 4 (xQm Γ below xI rF wF args s (x_mc rF) (x_ms rF)) w0 0 0 21 [(0, .ref a0), (1, .int x1), (2, .int x2), (3, .int x3)] [va_rf s0] := by
  rw [f_X7_hasTone_J21] at hyp
  refine r_iconst (v := 1) G dX7_hasTone_21 (by decide) ?_
  exact nd_X7_hasTone_J22 G hno a0 x1 x2 x3 1 s0 w0 hyp
end
set_option maxRecDepth 100000 in
set_option maxHeartbeats 4000000 in
theorem ct_X7_hasTone {Γ : xG} {l : Launch} (hl : l.stackTraces = false) (a0 : Nat) (x1 : Int32) (x2 : Int32) (x3 : Int32) (w0 : xW) (rF : Int32 ⊕ String) (wF : xW) (hyp : f_X7_hasTone a0 x1 x2 x3 w0 = some (rF, wF)) : xMet Γ l yX7_hasTone (xws yX7_hasTone cX7_hasTone 4 (some .boolean)) 2 xI [.ref a0, .int x1, .int x2, .int x3] w0 rF wF (x_mc rF) (x_ms rF) := by
  refine xOfW tg_X7_hasTone hl (lv0 := [(0, .ref a0), (1, .int x1), (2, .int x2), (3, .int x3)]) (Nat.le_of_ble_eq_true rfl) rfl ?_
  intro p e s m below meth c G hno hin
  rw [f_X7_hasTone] at hyp
  refine r_aload_n G 0 dX7_hasTone_0 rfl rfl ?_
  refine r_aload_n G 0 dX7_hasTone_1 rfl rfl ?_
  refine r_iload_n G 1 dX7_hasTone_2 rfl rfl ?_
  obtain ⟨o3, hyp⟩ := x_chk hyp
  refine r_callV (ι := xI) (T := TX7) (N := 22) (ci := 7) (b := a0) (rest := [.ref a0]) (As := [.int x1]) G hno tg_X7_isLayer (fun r w' h => ct_X7_isLayer (xhl G) _ _ _ r w' h) o3 hyp rfl ww_678 ww_680 ww_679 (by decide) (by decide) rfl rfl (xroom (Nat.le_of_ble_eq_true rfl)) dX7_hasTone_3 (push := (fun r2 => [.int r2, .ref a0])) (fun _ => rfl) (fun r2 w1 hyp => ?_)
  refine r_if_eq G 21 dX7_hasTone_6 (by decide) hyp (fun c4 hyp => ?_) (fun c4 hyp => ?_)
  · exact nd_X7_hasTone_J21 G hno a0 x1 x2 x3 (some a0) w1 hyp
  · refine r_iload_n G 2 dX7_hasTone_9 rfl rfl ?_
    refine r_iload_n G 3 dX7_hasTone_10 rfl rfl ?_
    refine r_callS (ι := xI) (rest := [.ref a0]) (As := [.int x2, .int x3]) G hno tg_X7_isCell (fun r w' h => ct_X7_isCell (xhl G) _ _ _ r w' h) hyp ww_651 ww_652 (by decide) (by decide) rfl rfl (xroom (Nat.le_of_ble_eq_true rfl)) dX7_hasTone_11 (push := (fun r14 => [.int r14, .ref a0])) (fun _ => rfl) (fun r14 w13 hyp => ?_)
    refine r_if_eq G 21 dX7_hasTone_14 (by decide) hyp (fun c15 hyp => ?_) (fun c15 hyp => ?_)
    · exact nd_X7_hasTone_J21 G hno a0 x1 x2 x3 (some a0) w13 hyp
    · refine r_iconst (v := 0) G dX7_hasTone_17 (by decide) ?_
      refine r_goto G 22 dX7_hasTone_18 (by decide) ?_
      exact nd_X7_hasTone_J22 G hno a0 x1 x2 x3 0 (some a0) w13 hyp
theorem tg_X7_hide : xTgt yX7_hide cX7_hide 2 (some .int) 1 := ⟨ww_745, ww_574, by decide, by decide +kernel, by decide +kernel⟩
section
variable {Γ : xG} {p : Program} {l : Launch} {e : Env} {s : State} {m : MethodId} {args : Array Value} {below : List Frame} {meth : Method} {c : Code} {rF : Int32 ⊕ String} {wF : xW}
end
set_option maxRecDepth 100000 in
set_option maxHeartbeats 4000000 in
theorem ct_X7_hide {Γ : xG} {l : Launch} (hl : l.stackTraces = false) (a0 : Nat) (x1 : Int32) (w0 : xW) (rF : Int32 ⊕ String) (wF : xW) (hyp : f_X7_hide a0 x1 w0 = some (rF, wF)) : xMet Γ l yX7_hide (xws yX7_hide cX7_hide 2 (some .int)) 3 xI [.ref a0, .int x1] w0 rF wF (x_mc rF) (x_ms rF) := by
  refine xOfW tg_X7_hide hl (lv0 := [(0, .ref a0), (1, .int x1)]) (Nat.le_of_ble_eq_true rfl) rfl ?_
  intro p e s m below meth c G hno hin
  rw [f_X7_hide] at hyp
  refine r_aload_n G 0 dX7_hide_0 rfl rfl ?_
  obtain ⟨o3, hyp⟩ := x_chk hyp
  refine r_callV (ι := xV) (T := TX7) (N := 22) (ci := 7) (b := a0) (rest := []) (As := []) G hno tg_X7_remembers (fun r w' h => ct_X7_remembers (xhl G) _ _ r w' h) o3 hyp rfl ww_604 ww_606 ww_605 (by decide) (by decide) rfl rfl (xroom (Nat.le_of_ble_eq_true rfl)) dX7_hide_1 (push := (fun _ => [])) (fun _ => rfl) (fun _ w1 hyp => ?_)
  refine r_aload_n G 0 dX7_hide_4 rfl rfl ?_
  refine r_aload_n G 0 dX7_hide_5 rfl rfl ?_
  refine r_iload_n G 1 dX7_hide_6 rfl rfl ?_
  refine r_iconst (v := 0) G dX7_hide_7 (by decide) ?_
  obtain ⟨o6, hyp⟩ := x_chk hyp
  refine r_callV (ι := xI) (T := TX7) (N := 22) (ci := 7) (b := a0) (rest := [.ref a0]) (As := [.int x1, .int 0]) G hno tg_X7_turns (fun r w' h => ct_X7_turns (xhl G) _ _ _ _ r w' h) o6 hyp rfl ww_724 ww_726 ww_725 (by decide) (by decide) rfl rfl (xroom (Nat.le_of_ble_eq_true rfl)) dX7_hide_8 (push := (fun r5 => [.int r5, .ref a0])) (fun _ => rfl) (fun r5 w4 hyp => ?_)
  obtain ⟨o9, hyp⟩ := x_chk hyp
  refine r_callV (ι := xI) (T := TX7) (N := 22) (ci := 7) (b := a0) (rest := []) (As := [.int r5]) G hno tg_X7_ends (fun r w' h => ct_X7_ends (xhl G) _ _ _ r w' h) o9 hyp rfl ww_610 ww_612 ww_611 (by decide) (by decide) rfl rfl (xroom (Nat.le_of_ble_eq_true rfl)) dX7_hide_11 (push := (fun r8 => [.int r8])) (fun _ => rfl) (fun r8 w7 hyp => ?_)
  exact r_iret G hyp rfl (Nat.zero_le _) (Nat.zero_le _) dX7_hide_14
theorem tg_X7_isConsistent : xTgt yX7_isConsistent cX7_isConsistent 1 (some .boolean) 0 := ⟨ww_746, ww_574, by decide, by decide +kernel, by decide +kernel⟩
section
variable {Γ : xG} {p : Program} {l : Launch} {e : Env} {s : State} {m : MethodId} {args : Array Value} {below : List Frame} {meth : Method} {c : Code} {rF : Int32 ⊕ String} {wF : xW}
end
set_option maxRecDepth 100000 in
set_option maxHeartbeats 4000000 in
theorem ct_X7_isConsistent {Γ : xG} {l : Launch} (hl : l.stackTraces = false) (a0 : Nat) (w0 : xW) (rF : Int32 ⊕ String) (wF : xW) (hyp : f_X7_isConsistent a0 w0 = some (rF, wF)) : xMet Γ l yX7_isConsistent (xws yX7_isConsistent cX7_isConsistent 1 (some .boolean)) 0 xI [.ref a0] w0 rF wF (x_mc rF) (x_ms rF) := by
  refine xOfW tg_X7_isConsistent hl (lv0 := [(0, .ref a0)]) (Nat.le_of_ble_eq_true rfl) rfl ?_
  intro p e s m below meth c G hno hin
  rw [f_X7_isConsistent] at hyp
  refine r_aload_n G 0 dX7_isConsistent_0 rfl rfl ?_
  refine r_iconst (v := 0) G dX7_isConsistent_1 (by decide) ?_
  obtain ⟨w1, hw1, hyp⟩ := x_some hyp
  refine r_putv (C := RX7) (T := TX7) (N := 22) (ci := 7) G tyX7 tyX7_ok nmX7 0 hw1 rfl uw_7 (Nat.le_of_ble_eq_true rfl) rfl ww_594 rfl rfl rfl dX7_isConsistent_2 ?_
  refine r_iconst (v := 1) G dX7_isConsistent_5 (by decide) ?_
  exact r_iret G hyp (by decide) (Nat.zero_le _) (Nat.zero_le _) dX7_isConsistent_6
theorem tg_X7_isMirrored : xTgt yX7_isMirrored cX7_isMirrored 2 (some .boolean) 0 := ⟨ww_747, ww_574, by decide, by decide +kernel, by decide +kernel⟩
section
variable {Γ : xG} {p : Program} {l : Launch} {e : Env} {s : State} {m : MethodId} {args : Array Value} {below : List Frame} {meth : Method} {c : Code} {rF : Int32 ⊕ String} {wF : xW}
set_option maxRecDepth 100000 in
set_option maxHeartbeats 4000000 in
theorem nd_X7_isMirrored_L7 (G : xCx Γ p l s m args meth c RX7 cX7_isMirrored 2 (some .boolean)) (hno : ∀ x ∈ c.exceptionTable.toList, False) : ∀ (n : Nat) (a0 : Nat) (x1 : Int32) (w0 : xW), f_X7_isMirrored_L7 n a0 x1 w0 = some (rF, wF) → xAW Γ p l e (xRm 2 (x_mc rF) (x_ms rF)) s m args below meth c 2 (xQm Γ below xI rF wF args s (x_mc rF) (x_ms rF)) w0 0 0 7 [(0, .ref a0), (1, .int x1)] [] := by
  intro n
  induction n with
  | zero =>
    intro a0 x1 w0 hyp
    cases (show (none : xO Int32) = some (rF, wF) from hyp)
  | succ n ih =>
    intro a0 x1 w0 hyp
    rw [f_X7_isMirrored_L7] at hyp
    refine r_iload_n G 1 dX7_isMirrored_7 rfl rfl ?_
    refine r_bipush (v := 48) G dX7_isMirrored_8 (by decide) ?_
    refine r_icmp_ge G 49 dX7_isMirrored_10 (by decide) hyp (fun c2 hyp => ?_) (fun c2 hyp => ?_)
    · refine r_iconst (v := 1) G dX7_isMirrored_49 (by decide) ?_
      exact r_iret G hyp (by decide) (Nat.zero_le _) (Nat.zero_le _) dX7_isMirrored_50
    · refine r_aload_n G 0 dX7_isMirrored_13 rfl rfl ?_
      refine r_iload_n G 1 dX7_isMirrored_14 rfl rfl ?_
      obtain ⟨o5, hyp⟩ := x_chk hyp
      refine r_callV (ι := xI) (T := TX7) (N := 22) (ci := 7) (b := a0) (rest := []) (As := [.int x1]) G hno tg_X7_look (fun r w' h => ct_X7_look (xhl G) _ _ _ r w' h) o5 hyp rfl ww_630 ww_632 ww_631 (by decide) (by decide) rfl rfl (xroom (Nat.le_of_ble_eq_true rfl)) dX7_isMirrored_15 (push := (fun r4 => [.int r4])) (fun _ => rfl) (fun r4 w3 hyp => ?_)
      refine r_aload_n G 0 dX7_isMirrored_18 rfl rfl ?_
      refine r_iload_n G 1 dX7_isMirrored_19 rfl rfl ?_
      refine r_iload_n G 1 dX7_isMirrored_20 rfl rfl ?_
      refine r_bipush (v := 8) G dX7_isMirrored_21 (by decide) ?_
      refine r_irem G dX7_isMirrored_23 (by decide) ?_
      refine r_isub G dX7_isMirrored_24 ?_
      refine r_bipush (v := 8) G dX7_isMirrored_25 (by decide) ?_
      refine r_iadd G dX7_isMirrored_27 ?_
      refine r_iconst (v := 1) G dX7_isMirrored_28 (by decide) ?_
      refine r_isub G dX7_isMirrored_29 ?_
      refine r_iload_n G 1 dX7_isMirrored_30 rfl rfl ?_
      refine r_bipush (v := 8) G dX7_isMirrored_31 (by decide) ?_
      refine r_irem G dX7_isMirrored_33 (by decide) ?_
      refine r_isub G dX7_isMirrored_34 ?_
      obtain ⟨o8, hyp⟩ := x_chk hyp
      refine r_callV (ι := xI) (T := TX7) (N := 22) (ci := 7) (b := a0) (rest := [.int r4]) (As := [.int ((((x1 - (x1 - x1 / 8 * 8)) + 8) - 1) - (x1 - x1 / 8 * 8))]) G hno tg_X7_look (fun r w' h => ct_X7_look (xhl G) _ _ _ r w' h) o8 hyp rfl ww_630 ww_632 ww_631 (by decide) (by decide) rfl rfl (xroom (Nat.le_of_ble_eq_true rfl)) dX7_isMirrored_35 (push := (fun r7 => [.int r7, .int r4])) (fun _ => rfl) (fun r7 w6 hyp => ?_)
      refine r_icmp_eq G 43 dX7_isMirrored_38 (by decide) hyp (fun c9 hyp => ?_) (fun c9 hyp => ?_)
      · refine r_iinc (v := (x1 + 1)) (lv' := [(1, .int (x1 + 1)), (0, .ref a0)]) G 1 dX7_isMirrored_43 rfl rfl (by decide) ⟨fun _ => rfl, fun _ => rfl, trivial⟩ rfl ?_
        refine r_goto G 7 dX7_isMirrored_46 (by decide) ?_
        refine r_weak (lv' := [(0, .ref a0), (1, .int (x1 + 1))]) [1, 0] rfl ?_
        exact ih a0 (x1 + 1) w6 hyp
      · refine r_iconst (v := 0) G dX7_isMirrored_41 (by decide) ?_
        exact r_iret G hyp (by decide) (Nat.zero_le _) (Nat.zero_le _) dX7_isMirrored_42
end
set_option maxRecDepth 100000 in
set_option maxHeartbeats 4000000 in
theorem ct_X7_isMirrored {Γ : xG} {l : Launch} (hl : l.stackTraces = false) (a0 : Nat) (w0 : xW) (rF : Int32 ⊕ String) (wF : xW) (hyp : f_X7_isMirrored a0 w0 = some (rF, wF)) : xMet Γ l yX7_isMirrored (xws yX7_isMirrored cX7_isMirrored 2 (some .boolean)) 2 xI [.ref a0] w0 rF wF (x_mc rF) (x_ms rF) := by
  refine xOfW tg_X7_isMirrored hl (lv0 := [(0, .ref a0)]) (Nat.le_of_ble_eq_true rfl) rfl ?_
  intro p e s m below meth c G hno hin
  rw [f_X7_isMirrored] at hyp
  refine r_aload_n G 0 dX7_isMirrored_0 rfl rfl ?_
  refine r_iconst (v := 0) G dX7_isMirrored_1 (by decide) ?_
  obtain ⟨w1, hw1, hyp⟩ := x_some hyp
  refine r_putv (C := RX7) (T := TX7) (N := 22) (ci := 7) G tyX7 tyX7_ok nmX7 0 hw1 rfl uw_7 (Nat.le_of_ble_eq_true rfl) rfl ww_594 rfl rfl rfl dX7_isMirrored_2 ?_
  refine r_iconst (v := 0) G dX7_isMirrored_5 (by decide) ?_
  refine r_istore_n (lv' := [(1, .int 0), (0, .ref a0)]) G dX7_isMirrored_6 rfl (by decide) ⟨fun _ => rfl, trivial⟩ rfl ?_
  refine r_weak (lv' := [(0, .ref a0), (1, .int 0)]) [1, 0] rfl ?_
  exact nd_X7_isMirrored_L7 G hno xfuel a0 0 w1 hyp
theorem tg_X7_isVisible : xTgt yX7_isVisible cX7_isVisible 2 (some .boolean) 1 := ⟨ww_748, ww_574, by decide, by decide +kernel, by decide +kernel⟩
section
variable {Γ : xG} {p : Program} {l : Launch} {e : Env} {s : State} {m : MethodId} {args : Array Value} {below : List Frame} {meth : Method} {c : Code} {rF : Int32 ⊕ String} {wF : xW}
end
set_option maxRecDepth 100000 in
set_option maxHeartbeats 4000000 in
theorem ct_X7_isVisible {Γ : xG} {l : Launch} (hl : l.stackTraces = false) (a0 : Nat) (x1 : Int32) (w0 : xW) (rF : Int32 ⊕ String) (wF : xW) (hyp : f_X7_isVisible a0 x1 w0 = some (rF, wF)) : xMet Γ l yX7_isVisible (xws yX7_isVisible cX7_isVisible 2 (some .boolean)) 2 xI [.ref a0, .int x1] w0 rF wF (x_mc rF) (x_ms rF) := by
  refine xOfW tg_X7_isVisible hl (lv0 := [(0, .ref a0), (1, .int x1)]) (Nat.le_of_ble_eq_true rfl) rfl ?_
  intro p e s m below meth c G hno hin
  rw [f_X7_isVisible] at hyp
  refine r_aload_n G 0 dX7_isVisible_0 rfl rfl ?_
  refine r_aload_n G 0 dX7_isVisible_1 rfl rfl ?_
  refine r_iload_n G 1 dX7_isVisible_2 rfl rfl ?_
  obtain ⟨o3, hyp⟩ := x_chk hyp
  refine r_callV (ι := xI) (T := TX7) (N := 22) (ci := 7) (b := a0) (rest := [.ref a0]) (As := [.int x1]) G hno tg_X7_isLayer (fun r w' h => ct_X7_isLayer (xhl G) _ _ _ r w' h) o3 hyp rfl ww_678 ww_680 ww_679 (by decide) (by decide) rfl rfl (xroom (Nat.le_of_ble_eq_true rfl)) dX7_isVisible_3 (push := (fun r2 => [.int r2, .ref a0])) (fun _ => rfl) (fun r2 w1 hyp => ?_)
  refine r_if_eq G 13 dX7_isVisible_6 (by decide) hyp (fun c4 hyp => ?_) (fun c4 hyp => ?_)
  · refine r_iconst (v := 1) G dX7_isVisible_13 (by decide) ?_
    obtain ⟨w5, hw5, hyp⟩ := x_some hyp
    refine r_putv (C := RX7) (T := TX7) (N := 22) (ci := 7) G tyX7 tyX7_ok nmX7 0 hw5 rfl uw_7 (Nat.le_of_ble_eq_true rfl) rfl ww_594 rfl rfl rfl dX7_isVisible_14 ?_
    refine r_aload_n G 0 dX7_isVisible_17 rfl rfl ?_
    obtain ⟨v6, hv6, hyp⟩ := x_some hyp
    refine r_getv (C := RX7) (T := TX7) (N := 22) (ci := 7) G 0 (x_geti_e hv6) rfl uw_7 (Nat.le_of_ble_eq_true rfl) rfl ww_594 dX7_isVisible_18 ?_
    refine r_if_ne G 36 dX7_isVisible_21 (by decide) hyp (fun c7 hyp => ?_) (fun c7 hyp => ?_)
    · refine r_iconst (v := 0) G dX7_isVisible_36 (by decide) ?_
      exact r_iret G hyp (by decide) (Nat.zero_le _) (Nat.zero_le _) dX7_isVisible_37
    · refine r_aload_n G 0 dX7_isVisible_24 rfl rfl ?_
      refine r_iload_n G 1 dX7_isVisible_25 rfl rfl ?_
      obtain ⟨o10, hyp⟩ := x_chk hyp
      refine r_callV (ι := xI) (T := TX7) (N := 22) (ci := 7) (b := a0) (rest := []) (As := [.int x1]) G hno tg_X7_shown (fun r w' h => ct_X7_shown (xhl G) _ _ _ r w' h) o10 hyp rfl ww_618 ww_620 ww_619 (by decide) (by decide) rfl rfl (xroom (Nat.le_of_ble_eq_true rfl)) dX7_isVisible_26 (push := (fun r9 => [.int r9])) (fun _ => rfl) (fun r9 w8 hyp => ?_)
      refine r_if_eq G 36 dX7_isVisible_29 (by decide) hyp (fun c11 hyp => ?_) (fun c11 hyp => ?_)
      · refine r_iconst (v := 0) G dX7_isVisible_36 (by decide) ?_
        exact r_iret G hyp (by decide) (Nat.zero_le _) (Nat.zero_le _) dX7_isVisible_37
      · refine r_iconst (v := 1) G dX7_isVisible_32 (by decide) ?_
        refine r_goto G 37 dX7_isVisible_33 (by decide) ?_
        exact r_iret G hyp (by decide) (Nat.zero_le _) (Nat.zero_le _) dX7_isVisible_37
  · refine r_iconst (v := 0) G dX7_isVisible_9 (by decide) ?_
    refine r_goto G 14 dX7_isVisible_10 (by decide) ?_
    obtain ⟨w12, hw12, hyp⟩ := x_some hyp
    refine r_putv (C := RX7) (T := TX7) (N := 22) (ci := 7) G tyX7 tyX7_ok nmX7 0 hw12 rfl uw_7 (Nat.le_of_ble_eq_true rfl) rfl ww_594 rfl rfl rfl dX7_isVisible_14 ?_
    refine r_aload_n G 0 dX7_isVisible_17 rfl rfl ?_
    obtain ⟨v13, hv13, hyp⟩ := x_some hyp
    refine r_getv (C := RX7) (T := TX7) (N := 22) (ci := 7) G 0 (x_geti_e hv13) rfl uw_7 (Nat.le_of_ble_eq_true rfl) rfl ww_594 dX7_isVisible_18 ?_
    refine r_if_ne G 36 dX7_isVisible_21 (by decide) hyp (fun c14 hyp => ?_) (fun c14 hyp => ?_)
    · refine r_iconst (v := 0) G dX7_isVisible_36 (by decide) ?_
      exact r_iret G hyp (by decide) (Nat.zero_le _) (Nat.zero_le _) dX7_isVisible_37
    · refine r_aload_n G 0 dX7_isVisible_24 rfl rfl ?_
      refine r_iload_n G 1 dX7_isVisible_25 rfl rfl ?_
      obtain ⟨o17, hyp⟩ := x_chk hyp
      refine r_callV (ι := xI) (T := TX7) (N := 22) (ci := 7) (b := a0) (rest := []) (As := [.int x1]) G hno tg_X7_shown (fun r w' h => ct_X7_shown (xhl G) _ _ _ r w' h) o17 hyp rfl ww_618 ww_620 ww_619 (by decide) (by decide) rfl rfl (xroom (Nat.le_of_ble_eq_true rfl)) dX7_isVisible_26 (push := (fun r16 => [.int r16])) (fun _ => rfl) (fun r16 w15 hyp => ?_)
      refine r_if_eq G 36 dX7_isVisible_29 (by decide) hyp (fun c18 hyp => ?_) (fun c18 hyp => ?_)
      · refine r_iconst (v := 0) G dX7_isVisible_36 (by decide) ?_
        exact r_iret G hyp (by decide) (Nat.zero_le _) (Nat.zero_le _) dX7_isVisible_37
      · refine r_iconst (v := 1) G dX7_isVisible_32 (by decide) ?_
        refine r_goto G 37 dX7_isVisible_33 (by decide) ?_
        exact r_iret G hyp (by decide) (Nat.zero_le _) (Nat.zero_le _) dX7_isVisible_37
theorem tg_X7_largestArea : xTgt yX7_largestArea cX7_largestArea 3 (some .int) 0 := ⟨ww_749, ww_574, by decide, by decide +kernel, by decide +kernel⟩
section
variable {Γ : xG} {p : Program} {l : Launch} {e : Env} {s : State} {m : MethodId} {args : Array Value} {below : List Frame} {meth : Method} {c : Code} {rF : Int32 ⊕ String} {wF : xW}
set_option maxRecDepth 100000 in
set_option maxHeartbeats 4000000 in
theorem nd_X7_largestArea_L13 (G : xCx Γ p l s m args meth c RX7 cX7_largestArea 3 (some .int)) (hno : ∀ x ∈ c.exceptionTable.toList, False) : ∀ (n : Nat) (a0 : Nat) (x1 : Int32) (x2 : Int32) (w0 : xW), f_X7_largestArea_L13 n a0 x1 x2 w0 = some (rF, wF) → xAW Γ p l e (xRm 4 (x_mc rF) (x_ms rF)) s m args below meth c 3 (xQm Γ below xI rF wF args s (x_mc rF) (x_ms rF)) w0 0 0 13 [(0, .ref a0), (1, .int x1), (2, .int x2)] [] := by
  intro n
  induction n with
  | zero =>
    intro a0 x1 x2 w0 hyp
    cases (show (none : xO Int32) = some (rF, wF) from hyp)
  | succ n ih =>
    intro a0 x1 x2 w0 hyp
    rw [f_X7_largestArea_L13] at hyp
    refine r_iload_n G 2 dX7_largestArea_13 rfl rfl ?_
    refine r_bipush (v := 48) G dX7_largestArea_14 (by decide) ?_
    refine r_icmp_ge G 44 dX7_largestArea_16 (by decide) hyp (fun c5 hyp => ?_) (fun c5 hyp => ?_)
    · refine r_iload_n G 1 dX7_largestArea_44 rfl rfl ?_
      exact r_iret G hyp rfl (Nat.zero_le _) (Nat.zero_le _) dX7_largestArea_45
    · refine r_aload_n G 0 dX7_largestArea_19 rfl rfl ?_
      refine r_iload_n G 2 dX7_largestArea_20 rfl rfl ?_
      obtain ⟨o8, hyp⟩ := x_chk hyp
      refine r_callV (ι := xI) (T := TX7) (N := 22) (ci := 7) (b := a0) (rest := []) (As := [.int x2]) G hno tg_X7_labelled (fun r w' h => ct_X7_labelled (xhl G) _ _ _ r w' h) o8 hyp rfl ww_653 ww_655 ww_654 (by decide) (by decide) rfl rfl (xroom (Nat.le_of_ble_eq_true rfl)) dX7_largestArea_21 (push := (fun r7 => [.int r7])) (fun _ => rfl) (fun r7 w6 hyp => ?_)
      refine r_iload_n G 1 dX7_largestArea_24 rfl rfl ?_
      refine r_icmp_le G 36 dX7_largestArea_25 (by decide) hyp (fun c9 hyp => ?_) (fun c9 hyp => ?_)
      · refine r_iload_n G 1 dX7_largestArea_36 rfl rfl ?_
        refine r_istore_n (lv' := [(1, .int x1), (0, .ref a0), (2, .int x2)]) G dX7_largestArea_37 rfl (by decide) ⟨fun _ => rfl, fun _ => rfl, fun _ => rfl, trivial⟩ rfl ?_
        refine r_iinc (v := (x2 + 1)) (lv' := [(2, .int (x2 + 1)), (1, .int x1), (0, .ref a0)]) G 2 dX7_largestArea_38 rfl rfl (by decide) ⟨fun _ => rfl, fun _ => rfl, fun _ => rfl, trivial⟩ rfl ?_
        refine r_goto G 13 dX7_largestArea_41 (by decide) ?_
        refine r_weak (lv' := [(0, .ref a0), (1, .int x1), (2, .int (x2 + 1))]) [2, 1, 0] rfl ?_
        exact ih a0 x1 (x2 + 1) w6 hyp
      · refine r_aload_n G 0 dX7_largestArea_28 rfl rfl ?_
        refine r_iload_n G 2 dX7_largestArea_29 rfl rfl ?_
        obtain ⟨o12, hyp⟩ := x_chk hyp
        refine r_callV (ι := xI) (T := TX7) (N := 22) (ci := 7) (b := a0) (rest := []) (As := [.int x2]) G hno tg_X7_labelled (fun r w' h => ct_X7_labelled (xhl G) _ _ _ r w' h) o12 hyp rfl ww_653 ww_655 ww_654 (by decide) (by decide) rfl rfl (xroom (Nat.le_of_ble_eq_true rfl)) dX7_largestArea_30 (push := (fun r11 => [.int r11])) (fun _ => rfl) (fun r11 w10 hyp => ?_)
        refine r_goto G 37 dX7_largestArea_33 (by decide) ?_
        refine r_istore_n (lv' := [(1, .int r11), (0, .ref a0), (2, .int x2)]) G dX7_largestArea_37 rfl (by decide) ⟨fun _ => rfl, fun _ => rfl, fun _ => rfl, trivial⟩ rfl ?_
        refine r_iinc (v := (x2 + 1)) (lv' := [(2, .int (x2 + 1)), (1, .int r11), (0, .ref a0)]) G 2 dX7_largestArea_38 rfl rfl (by decide) ⟨fun _ => rfl, fun _ => rfl, fun _ => rfl, trivial⟩ rfl ?_
        refine r_goto G 13 dX7_largestArea_41 (by decide) ?_
        refine r_weak (lv' := [(0, .ref a0), (1, .int r11), (2, .int (x2 + 1))]) [2, 1, 0] rfl ?_
        exact ih a0 r11 (x2 + 1) w10 hyp
end
set_option maxRecDepth 100000 in
set_option maxHeartbeats 4000000 in
theorem ct_X7_largestArea {Γ : xG} {l : Launch} (hl : l.stackTraces = false) (a0 : Nat) (w0 : xW) (rF : Int32 ⊕ String) (wF : xW) (hyp : f_X7_largestArea a0 w0 = some (rF, wF)) : xMet Γ l yX7_largestArea (xws yX7_largestArea cX7_largestArea 3 (some .int)) 4 xI [.ref a0] w0 rF wF (x_mc rF) (x_ms rF) := by
  refine xOfW tg_X7_largestArea hl (lv0 := [(0, .ref a0)]) (Nat.le_of_ble_eq_true rfl) rfl ?_
  intro p e s m below meth c G hno hin
  rw [f_X7_largestArea] at hyp
  refine r_aload_n G 0 dX7_largestArea_0 rfl rfl ?_
  refine r_iconst (v := 0) G dX7_largestArea_1 (by decide) ?_
  obtain ⟨w1, hw1, hyp⟩ := x_some hyp
  refine r_putv (C := RX7) (T := TX7) (N := 22) (ci := 7) G tyX7 tyX7_ok nmX7 0 hw1 rfl uw_7 (Nat.le_of_ble_eq_true rfl) rfl ww_594 rfl rfl rfl dX7_largestArea_2 ?_
  refine r_aload_n G 0 dX7_largestArea_5 rfl rfl ?_
  obtain ⟨o4, hyp⟩ := x_chk hyp
  refine r_callV (ι := xV) (T := TX7) (N := 22) (ci := 7) (b := a0) (rest := []) (As := []) G hno tg_X7_labels (fun r w' h => ct_X7_labels (xhl G) _ _ r w' h) o4 hyp rfl ww_638 ww_640 ww_639 (by decide) (by decide) rfl rfl (xroom (Nat.le_of_ble_eq_true rfl)) dX7_largestArea_6 (push := (fun _ => [])) (fun _ => rfl) (fun _ w2 hyp => ?_)
  refine r_iconst (v := 0) G dX7_largestArea_9 (by decide) ?_
  refine r_istore_n (lv' := [(1, .int 0), (0, .ref a0)]) G dX7_largestArea_10 rfl (by decide) ⟨fun _ => rfl, trivial⟩ rfl ?_
  refine r_iconst (v := 0) G dX7_largestArea_11 (by decide) ?_
  refine r_istore_n (lv' := [(2, .int 0), (1, .int 0), (0, .ref a0)]) G dX7_largestArea_12 rfl (by decide) ⟨fun _ => rfl, fun _ => rfl, trivial⟩ rfl ?_
  refine r_weak (lv' := [(0, .ref a0), (1, .int 0), (2, .int 0)]) [2, 1, 0] rfl ?_
  exact nd_X7_largestArea_L13 G hno xfuel a0 0 0 w2 hyp
theorem tg_X7_layerByPaint : xTgt yX7_layerByPaint cX7_layerByPaint 5 (some .int) 1 := ⟨ww_750, ww_574, by decide, by decide +kernel, by decide +kernel⟩
section
variable {Γ : xG} {p : Program} {l : Launch} {e : Env} {s : State} {m : MethodId} {args : Array Value} {below : List Frame} {meth : Method} {c : Code} {rF : Int32 ⊕ String} {wF : xW}
set_option maxRecDepth 100000 in
set_option maxHeartbeats 4000000 in
theorem nd_X7_layerByPaint_L22 {k7 : Nat → Int32 → Int32 → xW → xO Int32} (G : xCx Γ p l s m args meth c RX7 cX7_layerByPaint 5 (some .int)) (hno : ∀ x ∈ c.exceptionTable.toList, False) (hk7 : ∀ (a0 : Nat) (x1 : Int32) (x2 : Int32) (w : xW), k7 a0 x1 x2 w = some (rF, wF) → xAW Γ p l e (xRm 2 (x_mc rF) (x_ms rF)) s m args below meth c 5 (xQm Γ below xI rF wF args s (x_mc rF) (x_ms rF)) w 0 0 7 [(0, .ref a0), (1, .int x1), (2, .int x2)] []) : ∀ (n : Nat) (a0 : Nat) (x1 : Int32) (x2 : Int32) (x3 : Int32) (x4 : Int32) (w0 : xW), f_X7_layerByPaint_L22 k7 n a0 x1 x2 x3 x4 w0 = some (rF, wF) → xAW Γ p l e (xRm 2 (x_mc rF) (x_ms rF)) s m args below meth c 5 (xQm Γ below xI rF wF args s (x_mc rF) (x_ms rF)) w0 0 0 22 [(0, .ref a0), (1, .int x1), (2, .int x2), (3, .int x3), (4, .int x4)] [] := by
  intro n
  induction n with
  | zero =>
    intro a0 x1 x2 x3 x4 w0 hyp
    cases (show (none : xO Int32) = some (rF, wF) from hyp)
  | succ n ih =>
    intro a0 x1 x2 x3 x4 w0 hyp
    rw [f_X7_layerByPaint_L22] at hyp
    refine r_iload G 4 dX7_layerByPaint_22 rfl ?_
    refine r_aload_n G 0 dX7_layerByPaint_24 rfl rfl ?_
    obtain ⟨v9, hv9, hyp⟩ := x_some hyp
    refine r_getv (C := RX7) (T := TX7) (N := 22) (ci := 7) G 1 (x_getr_e hv9) rfl uw_7 (Nat.le_of_ble_eq_true rfl) rfl ww_561 dX7_layerByPaint_25 ?_
    refine r_iconst (v := 0) G dX7_layerByPaint_28 (by decide) ?_
    refine r_ref hyp (fun a10 ha10 hz => ?_)
    clear hyp; subst ha10; have hyp := hz; clear hz
    obtain ⟨v11, hv11, hyp⟩ := x_some hyp
    refine r_iald G hv11 dX7_layerByPaint_29 ?_
    refine r_icmp_ge G 81 dX7_layerByPaint_30 (by decide) hyp (fun c12 hyp => ?_) (fun c12 hyp => ?_)
    · refine r_iload_n G 3 dX7_layerByPaint_81 rfl rfl ?_
      refine r_iload_n G 1 dX7_layerByPaint_82 rfl rfl ?_
      refine r_icmp_ne G 88 dX7_layerByPaint_83 (by decide) hyp (fun c13 hyp => ?_) (fun c13 hyp => ?_)
      · refine r_iinc (v := (x2 + 1)) (lv' := [(2, .int (x2 + 1)), (0, .ref a0), (1, .int x1), (3, .int x3), (4, .int x4)]) G 2 dX7_layerByPaint_88 rfl rfl (by decide) ⟨fun _ => rfl, fun _ => rfl, fun _ => rfl, fun _ => rfl, fun _ => rfl, trivial⟩ rfl ?_
        refine r_goto G 7 dX7_layerByPaint_91 (by decide) ?_
        refine r_weak (lv' := [(0, .ref a0), (1, .int x1), (2, .int (x2 + 1))]) [1, 2, 0] rfl ?_
        exact hk7 a0 x1 (x2 + 1) w0 hyp
      · refine r_iload_n G 2 dX7_layerByPaint_86 rfl rfl ?_
        exact r_iret G hyp rfl (Nat.zero_le _) (Nat.zero_le _) dX7_layerByPaint_87
    · refine r_iload_n G 3 dX7_layerByPaint_33 rfl rfl ?_
      refine r_aload_n G 0 dX7_layerByPaint_34 rfl rfl ?_
      refine r_iload G 4 dX7_layerByPaint_35 rfl ?_
      obtain ⟨o16, hyp⟩ := x_chk hyp
      refine r_callV (ι := xI) (T := TX7) (N := 22) (ci := 7) (b := a0) (rest := [.int x3]) (As := [.int x4]) G hno tg_X7_full (fun r w' h => ct_X7_full (xhl G) _ _ _ r w' h) o16 hyp rfl ww_681 ww_683 ww_682 (by decide) (by decide) rfl rfl (xroom (Nat.le_of_ble_eq_true rfl)) dX7_layerByPaint_37 (push := (fun r15 => [.int r15, .int x3])) (fun _ => rfl) (fun r15 w14 hyp => ?_)
      refine r_aload_n G 0 dX7_layerByPaint_40 rfl rfl ?_
      refine r_iload_n G 2 dX7_layerByPaint_41 rfl rfl ?_
      obtain ⟨o19, hyp⟩ := x_chk hyp
      refine r_callV (ι := xI) (T := TX7) (N := 22) (ci := 7) (b := a0) (rest := [.int r15, .int x3]) (As := [.int x2]) G hno tg_X7_full (fun r w' h => ct_X7_full (xhl G) _ _ _ r w' h) o19 hyp rfl ww_681 ww_683 ww_682 (by decide) (by decide) rfl rfl (xroom (Nat.le_of_ble_eq_true rfl)) dX7_layerByPaint_42 (push := (fun r18 => [.int r18, .int r15, .int x3])) (fun _ => rfl) (fun r18 w17 hyp => ?_)
      refine r_icmp_gt G 68 dX7_layerByPaint_45 (by decide) hyp (fun c20 hyp => ?_) (fun c20 hyp => ?_)
      · refine r_iconst (v := 1) G dX7_layerByPaint_68 (by decide) ?_
        refine r_goto G 73 dX7_layerByPaint_69 (by decide) ?_
        refine r_iadd G dX7_layerByPaint_73 ?_
        refine r_istore_n (lv' := [(3, .int (x3 + 1)), (0, .ref a0), (1, .int x1), (2, .int x2), (4, .int x4)]) G dX7_layerByPaint_74 rfl (by decide) ⟨fun _ => rfl, fun _ => rfl, fun _ => rfl, fun _ => rfl, fun _ => rfl, trivial⟩ rfl ?_
        refine r_iinc (v := (x4 + 1)) (lv' := [(4, .int (x4 + 1)), (3, .int (x3 + 1)), (0, .ref a0), (1, .int x1), (2, .int x2)]) G 4 dX7_layerByPaint_75 rfl rfl (by decide) ⟨fun _ => rfl, fun _ => rfl, fun _ => rfl, fun _ => rfl, fun _ => rfl, trivial⟩ rfl ?_
        refine r_goto G 22 dX7_layerByPaint_78 (by decide) ?_
        refine r_weak (lv' := [(0, .ref a0), (1, .int x1), (2, .int x2), (3, .int (x3 + 1)), (4, .int (x4 + 1))]) [2, 3, 4, 1, 0] rfl ?_
        exact ih a0 x1 x2 (x3 + 1) (x4 + 1) w17 hyp
      · refine r_aload_n G 0 dX7_layerByPaint_48 rfl rfl ?_
        refine r_iload G 4 dX7_layerByPaint_49 rfl ?_
        obtain ⟨o23, hyp⟩ := x_chk hyp
        refine r_callV (ι := xI) (T := TX7) (N := 22) (ci := 7) (b := a0) (rest := [.int x3]) (As := [.int x4]) G hno tg_X7_full (fun r w' h => ct_X7_full (xhl G) _ _ _ r w' h) o23 hyp rfl ww_681 ww_683 ww_682 (by decide) (by decide) rfl rfl (xroom (Nat.le_of_ble_eq_true rfl)) dX7_layerByPaint_51 (push := (fun r22 => [.int r22, .int x3])) (fun _ => rfl) (fun r22 w21 hyp => ?_)
        refine r_aload_n G 0 dX7_layerByPaint_54 rfl rfl ?_
        refine r_iload_n G 2 dX7_layerByPaint_55 rfl rfl ?_
        obtain ⟨o26, hyp⟩ := x_chk hyp
        refine r_callV (ι := xI) (T := TX7) (N := 22) (ci := 7) (b := a0) (rest := [.int r22, .int x3]) (As := [.int x2]) G hno tg_X7_full (fun r w' h => ct_X7_full (xhl G) _ _ _ r w' h) o26 hyp rfl ww_681 ww_683 ww_682 (by decide) (by decide) rfl rfl (xroom (Nat.le_of_ble_eq_true rfl)) dX7_layerByPaint_56 (push := (fun r25 => [.int r25, .int r22, .int x3])) (fun _ => rfl) (fun r25 w24 hyp => ?_)
        refine r_icmp_ne G 72 dX7_layerByPaint_59 (by decide) hyp (fun c27 hyp => ?_) (fun c27 hyp => ?_)
        · refine r_iconst (v := 0) G dX7_layerByPaint_72 (by decide) ?_
          refine r_iadd G dX7_layerByPaint_73 ?_
          refine r_istore_n (lv' := [(3, .int (x3 + 0)), (0, .ref a0), (1, .int x1), (2, .int x2), (4, .int x4)]) G dX7_layerByPaint_74 rfl (by decide) ⟨fun _ => rfl, fun _ => rfl, fun _ => rfl, fun _ => rfl, fun _ => rfl, trivial⟩ rfl ?_
          refine r_iinc (v := (x4 + 1)) (lv' := [(4, .int (x4 + 1)), (3, .int (x3 + 0)), (0, .ref a0), (1, .int x1), (2, .int x2)]) G 4 dX7_layerByPaint_75 rfl rfl (by decide) ⟨fun _ => rfl, fun _ => rfl, fun _ => rfl, fun _ => rfl, fun _ => rfl, trivial⟩ rfl ?_
          refine r_goto G 22 dX7_layerByPaint_78 (by decide) ?_
          refine r_weak (lv' := [(0, .ref a0), (1, .int x1), (2, .int x2), (3, .int (x3 + 0)), (4, .int (x4 + 1))]) [2, 3, 4, 1, 0] rfl ?_
          exact ih a0 x1 x2 (x3 + 0) (x4 + 1) w24 hyp
        · refine r_iload G 4 dX7_layerByPaint_62 rfl ?_
          refine r_iload_n G 2 dX7_layerByPaint_64 rfl rfl ?_
          refine r_icmp_ge G 72 dX7_layerByPaint_65 (by decide) hyp (fun c28 hyp => ?_) (fun c28 hyp => ?_)
          · refine r_iconst (v := 0) G dX7_layerByPaint_72 (by decide) ?_
            refine r_iadd G dX7_layerByPaint_73 ?_
            refine r_istore_n (lv' := [(3, .int (x3 + 0)), (0, .ref a0), (1, .int x1), (2, .int x2), (4, .int x4)]) G dX7_layerByPaint_74 rfl (by decide) ⟨fun _ => rfl, fun _ => rfl, fun _ => rfl, fun _ => rfl, fun _ => rfl, trivial⟩ rfl ?_
            refine r_iinc (v := (x4 + 1)) (lv' := [(4, .int (x4 + 1)), (3, .int (x3 + 0)), (0, .ref a0), (1, .int x1), (2, .int x2)]) G 4 dX7_layerByPaint_75 rfl rfl (by decide) ⟨fun _ => rfl, fun _ => rfl, fun _ => rfl, fun _ => rfl, fun _ => rfl, trivial⟩ rfl ?_
            refine r_goto G 22 dX7_layerByPaint_78 (by decide) ?_
            refine r_weak (lv' := [(0, .ref a0), (1, .int x1), (2, .int x2), (3, .int (x3 + 0)), (4, .int (x4 + 1))]) [2, 3, 4, 1, 0] rfl ?_
            exact ih a0 x1 x2 (x3 + 0) (x4 + 1) w24 hyp
          · refine r_iconst (v := 1) G dX7_layerByPaint_68 (by decide) ?_
            refine r_goto G 73 dX7_layerByPaint_69 (by decide) ?_
            refine r_iadd G dX7_layerByPaint_73 ?_
            refine r_istore_n (lv' := [(3, .int (x3 + 1)), (0, .ref a0), (1, .int x1), (2, .int x2), (4, .int x4)]) G dX7_layerByPaint_74 rfl (by decide) ⟨fun _ => rfl, fun _ => rfl, fun _ => rfl, fun _ => rfl, fun _ => rfl, trivial⟩ rfl ?_
            refine r_iinc (v := (x4 + 1)) (lv' := [(4, .int (x4 + 1)), (3, .int (x3 + 1)), (0, .ref a0), (1, .int x1), (2, .int x2)]) G 4 dX7_layerByPaint_75 rfl rfl (by decide) ⟨fun _ => rfl, fun _ => rfl, fun _ => rfl, fun _ => rfl, fun _ => rfl, trivial⟩ rfl ?_
            refine r_goto G 22 dX7_layerByPaint_78 (by decide) ?_
            refine r_weak (lv' := [(0, .ref a0), (1, .int x1), (2, .int x2), (3, .int (x3 + 1)), (4, .int (x4 + 1))]) [2, 3, 4, 1, 0] rfl ?_
            exact ih a0 x1 x2 (x3 + 1) (x4 + 1) w24 hyp
set_option maxRecDepth 100000 in
set_option maxHeartbeats 4000000 in
theorem nd_X7_layerByPaint_L7 (G : xCx Γ p l s m args meth c RX7 cX7_layerByPaint 5 (some .int)) (hno : ∀ x ∈ c.exceptionTable.toList, False) : ∀ (n : Nat) (a0 : Nat) (x1 : Int32) (x2 : Int32) (w0 : xW), f_X7_layerByPaint_L7 n a0 x1 x2 w0 = some (rF, wF) → xAW Γ p l e (xRm 2 (x_mc rF) (x_ms rF)) s m args below meth c 5 (xQm Γ below xI rF wF args s (x_mc rF) (x_ms rF)) w0 0 0 7 [(0, .ref a0), (1, .int x1), (2, .int x2)] [] := by
  intro n
  induction n with
  | zero =>
    intro a0 x1 x2 w0 hyp
    cases (show (none : xO Int32) = some (rF, wF) from hyp)
  | succ n ih =>
    intro a0 x1 x2 w0 hyp
    rw [f_X7_layerByPaint_L7] at hyp
    refine r_iload_n G 2 dX7_layerByPaint_7 rfl rfl ?_
    refine r_aload_n G 0 dX7_layerByPaint_8 rfl rfl ?_
    obtain ⟨v2, hv2, hyp⟩ := x_some hyp
    refine r_getv (C := RX7) (T := TX7) (N := 22) (ci := 7) G 1 (x_getr_e hv2) rfl uw_7 (Nat.le_of_ble_eq_true rfl) rfl ww_561 dX7_layerByPaint_9 ?_
    refine r_iconst (v := 0) G dX7_layerByPaint_12 (by decide) ?_
    refine r_ref hyp (fun a3 ha3 hz => ?_)
    clear hyp; subst ha3; have hyp := hz; clear hz
    obtain ⟨v4, hv4, hyp⟩ := x_some hyp
    refine r_iald G hv4 dX7_layerByPaint_13 ?_
    refine r_icmp_ge G 94 dX7_layerByPaint_14 (by decide) hyp (fun c5 hyp => ?_) (fun c5 hyp => ?_)
    · refine r_aload_n G 0 dX7_layerByPaint_94 rfl rfl ?_
      refine r_iconst (v := 1) G dX7_layerByPaint_95 (by decide) ?_
      obtain ⟨o8, hyp⟩ := x_chk hyp
      refine r_callV (ι := xI) (T := TX7) (N := 22) (ci := 7) (b := a0) (rest := []) (As := [.int 1]) G hno tg_X7_fails (fun r w' h => ct_X7_fails (xhl G) _ _ _ r w' h) o8 hyp rfl ww_596 ww_598 ww_597 (by decide) (by decide) rfl rfl (xroom (Nat.le_of_ble_eq_true rfl)) dX7_layerByPaint_96 (push := (fun r7 => [.int r7])) (fun _ => rfl) (fun r7 w6 hyp => ?_)
      exact r_iret G hyp rfl (Nat.zero_le _) (Nat.zero_le _) dX7_layerByPaint_99
    · refine r_iconst (v := 0) G dX7_layerByPaint_17 (by decide) ?_
      refine r_istore_n (lv' := [(3, .int 0), (0, .ref a0), (1, .int x1), (2, .int x2)]) G dX7_layerByPaint_18 rfl (by decide) ⟨fun _ => rfl, fun _ => rfl, fun _ => rfl, trivial⟩ rfl ?_
      refine r_iconst (v := 0) G dX7_layerByPaint_19 (by decide) ?_
      refine r_istore (lv' := [(4, .int 0), (3, .int 0), (0, .ref a0), (1, .int x1), (2, .int x2)]) G dX7_layerByPaint_20 (by decide) ⟨fun _ => rfl, fun _ => rfl, fun _ => rfl, fun _ => rfl, trivial⟩ rfl ?_
      refine r_weak (lv' := [(0, .ref a0), (1, .int x1), (2, .int x2), (3, .int 0), (4, .int 0)]) [2, 3, 4, 1, 0] rfl ?_
      exact nd_X7_layerByPaint_L22 G hno ih xfuel a0 x1 x2 0 0 w0 hyp
end
set_option maxRecDepth 100000 in
set_option maxHeartbeats 4000000 in
theorem ct_X7_layerByPaint {Γ : xG} {l : Launch} (hl : l.stackTraces = false) (a0 : Nat) (x1 : Int32) (w0 : xW) (rF : Int32 ⊕ String) (wF : xW) (hyp : f_X7_layerByPaint a0 x1 w0 = some (rF, wF)) : xMet Γ l yX7_layerByPaint (xws yX7_layerByPaint cX7_layerByPaint 5 (some .int)) 2 xI [.ref a0, .int x1] w0 rF wF (x_mc rF) (x_ms rF) := by
  refine xOfW tg_X7_layerByPaint hl (lv0 := [(0, .ref a0), (1, .int x1)]) (Nat.le_of_ble_eq_true rfl) rfl ?_
  intro p e s m below meth c G hno hin
  rw [f_X7_layerByPaint] at hyp
  refine r_aload_n G 0 dX7_layerByPaint_0 rfl rfl ?_
  refine r_iconst (v := 0) G dX7_layerByPaint_1 (by decide) ?_
  obtain ⟨w1, hw1, hyp⟩ := x_some hyp
  refine r_putv (C := RX7) (T := TX7) (N := 22) (ci := 7) G tyX7 tyX7_ok nmX7 0 hw1 rfl uw_7 (Nat.le_of_ble_eq_true rfl) rfl ww_594 rfl rfl rfl dX7_layerByPaint_2 ?_
  refine r_iconst (v := 0) G dX7_layerByPaint_5 (by decide) ?_
  refine r_istore_n (lv' := [(2, .int 0), (0, .ref a0), (1, .int x1)]) G dX7_layerByPaint_6 rfl (by decide) ⟨fun _ => rfl, fun _ => rfl, trivial⟩ rfl ?_
  refine r_weak (lv' := [(0, .ref a0), (1, .int x1), (2, .int 0)]) [1, 2, 0] rfl ?_
  exact nd_X7_layerByPaint_L7 G hno xfuel a0 x1 0 w1 hyp
