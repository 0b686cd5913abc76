section
variable {Γ : xG} {p : Program} {l : Launch} {e : Env} {s : State} {m : MethodId} {below : List Frame} {meth : Method} {c : Code} {wF : xW} {b L : Nat} {xs : Nat → Int32}
set_option maxRecDepth 100000 in
set_option maxHeartbeats 4000000 in
theorem nd_L_law_J248 {k23 : Nat → Nat → Nat → Int32 → xW → xO Int32} (G : xCx Γ p l s m #[Value.ref b] meth c RL cL_law 9 (some .boolean)) (hN : xNc s) (hX : xSc Γ b L xs s) (n : Nat) (hk23 : ∀ (x1 : Nat) (x2 : Nat) (x3 : Nat) (x4 : Int32) (w : xW) (cells slots : Nat), cells + n * 1 ≤ 601024 → slots + n * 6 ≤ 7293034 → k23 x1 x2 x3 x4 w = some (Sum.inl (1 : Int32), wF) → xAW Γ p l e room_1 s m #[Value.ref b] below meth c 9 (lw_Z below #[Value.ref b] s) w cells slots 23 [(0, .ref b), (1, .ref x1), (2, .ref x2), (3, .ref x3), (4, .int x4)] []) (x1 : Nat) (x2 : Nat) (x3 : Nat) (x4 : Int32) (w0 : xW) (cells slots : Nat) (hcl : cells + (n + 1) * 1 ≤ 601024) (hsl : slots + (n + 1) * 6 ≤ 7293034) (hyp : f_L_law_J248 xs L k23 x1 x2 x3 x4 w0 = some (Sum.inl (1 : Int32), wF)) : xAW Γ p l e room_1 s m #[Value.ref b] below meth c 9 (lw_Z below #[Value.ref b] s) w0 cells slots 248 [(0, .ref b), (1, .ref x1), (2, .ref x2), (3, .ref x3), (4, .int x4)] [] := by
  rw [f_L_law_J248] at hyp
  refine r_aload_n G 1 dL_law_248 rfl rfl ?_
  refine r_aload_n G 0 dL_law_249 rfl rfl ?_
  refine r_iload G 4 dL_law_250 rfl ?_
  refine r_iconst (v := 1) G dL_law_252 (by decide) ?_
  refine r_iadd G dL_law_253 ?_
  obtain ⟨h9, hyp⟩ := x_chk hyp
  refine r_sld G hX h9 dL_law_254 ?_
  refine r_i2c G dL_law_255 ?_
  refine r_aload_n G 3 dL_law_256 rfl rfl ?_
  refine r_callLS (ι := xI) (rest := []) (As := [va_rf (some x1), .int (x_c (xs ((x4 + 1)).toNatClampNeg)), va_rf (some x3)]) G hN tgh_L_addLayer (fun r w' h => ct_L_addLayer (xhl G) _ _ _ _ r w' h) hyp ww_991 ww_992 (by decide) (by decide) (by first | exact ⟨Nat.le_of_ble_eq_true rfl, Nat.le_of_ble_eq_true rfl⟩ | (constructor <;> (show _ ≤ _; simp only [room_1]; omega))) rfl rfl (xroom (Nat.le_of_ble_eq_true rfl)) dL_law_257 (push := (fun r11 => [.int r11])) (fun _ => rfl) (fun r11 w10 hyp => ?_)
  refine r_istore (lv' := [(5, .int r11), (0, .ref b), (1, .ref x1), (2, .ref x2), (3, .ref x3), (4, .int x4)]) G dL_law_260 (by decide) ⟨fun _ => rfl, fun _ => rfl, fun _ => rfl, fun _ => rfl, fun _ => rfl, trivial⟩ rfl ?_
  refine r_aload_n G 3 dL_law_262 rfl rfl ?_
  refine r_aload_n G 1 dL_law_263 rfl rfl ?_
  refine r_iload G 5 dL_law_264 rfl ?_
  refine r_iconst (v := 1) G dL_law_266 (by decide) ?_
  refine r_iadd G dL_law_267 ?_
  obtain ⟨h12, hyp⟩ := x_chk hyp
  refine r_sld G hX h12 dL_law_268 ?_
  refine r_i2c G dL_law_269 ?_
  obtain ⟨o15, hyp⟩ := x_chk hyp
  refine r_callLV (ι := xI) (T := TX7) (N := 22) (ci := 7) (b := x2) (rest := []) (As := [.int (x_c (xs ((x4 + 1)).toNatClampNeg))]) G tg_X7_addLayer (fun r w' h => ct_X7_addLayer (xhl G) _ _ _ r w' h) o15 hyp rfl ww_993 ww_995 ww_994 (by decide) (by decide) (by first | exact ⟨Nat.le_of_ble_eq_true rfl, Nat.le_of_ble_eq_true rfl⟩ | (constructor <;> (show _ ≤ _; simp only [room_1]; omega))) rfl rfl (xroom (Nat.le_of_ble_eq_true rfl)) dL_law_270 (push := (fun r14 => [.int r14])) (fun _ => rfl) (fun r14 w13 hyp => ?_)
  refine r_istore (lv' := [(6, .int r14), (5, .int r11), (0, .ref b), (1, .ref x1), (2, .ref x2), (3, .ref x3), (4, .int x4)]) G dL_law_273 (by decide) ⟨fun _ => rfl, fun _ => rfl, fun _ => rfl, fun _ => rfl, fun _ => rfl, fun _ => rfl, trivial⟩ rfl ?_
  refine r_aload_n G 4 dL_law_275 rfl rfl ?_
  obtain ⟨o18, hyp⟩ := x_chk hyp
  refine r_callLV (ι := xI) (T := TX7) (N := 22) (ci := 7) (b := x2) (rest := []) (As := []) G tg_X7_thrown (fun r w' h => ct_X7_thrown (xhl G) _ _ r w' h) o18 hyp rfl ww_996 ww_998 ww_997 (by decide) (by decide) (by first | exact ⟨Nat.le_of_ble_eq_true rfl, Nat.le_of_ble_eq_true rfl⟩ | (constructor <;> (show _ ≤ _; simp only [room_1]; omega))) rfl rfl (xroom (Nat.le_of_ble_eq_true rfl)) dL_law_276 (push := (fun r17 => [.int r17])) (fun _ => rfl) (fun r17 w16 hyp => ?_)
  refine r_iload G 1 dL_law_279 rfl ?_
  refine r_icmp_eq G 286 dL_law_281 (by decide) hyp (fun c19 hyp => ?_) (fun c19 hyp => ?_)
  · refine r_iload G 1 dL_law_286 rfl ?_
    refine r_if_ne G 303 dL_law_288 (by decide) hyp (fun c20 hyp => ?_) (fun c20 hyp => ?_)
    · refine r_goto G 2578 dL_law_303 (by decide) ?_
      refine r_iinc (v := (x4 + 7)) (lv' := [(4, .int (x4 + 7)), (6, .int r14), (5, .int r11), (0, .ref b), (1, .ref x1), (2, .ref x2), (3, .ref x3)]) G 6 dL_law_2578 rfl rfl (by decide) ⟨fun _ => rfl, fun _ => rfl, fun _ => rfl, fun _ => rfl, fun _ => rfl, fun _ => rfl, fun _ => rfl, trivial⟩ rfl ?_
      refine r_goto G 23 dL_law_2581 (by decide) ?_
      refine r_weak (lv' := [(0, .ref b), (1, .ref x1), (2, .ref x2), (3, .ref x3), (4, .int (x4 + 7))]) [3, 4, 5, 6, 0] rfl ?_
      exact hk23 x1 x2 x3 (x4 + 7) w16 _ _ (by omega) (by omega) hyp
    · refine r_aload_n G 5 dL_law_291 rfl rfl ?_
      refine r_iconst (v := 0) G dL_law_292 (by decide) ?_
      obtain ⟨v21, hv21, hyp⟩ := x_some hyp
      refine r_lald G hv21 dL_law_293 ?_
      refine r_iload G 0 dL_law_294 rfl ?_
      refine r_i2l G dL_law_296 ?_
      refine r_lcmp G dL_law_297 ?_
      refine r_if_eq G 303 dL_law_298 (by decide) hyp (fun c22 hyp => ?_) (fun c22 hyp => ?_)
      · refine r_goto G 2578 dL_law_303 (by decide) ?_
        refine r_iinc (v := (x4 + 7)) (lv' := [(4, .int (x4 + 7)), (6, .int r14), (5, .int r11), (0, .ref b), (1, .ref x1), (2, .ref x2), (3, .ref x3)]) G 6 dL_law_2578 rfl rfl (by decide) ⟨fun _ => rfl, fun _ => rfl, fun _ => rfl, fun _ => rfl, fun _ => rfl, fun _ => rfl, fun _ => rfl, trivial⟩ rfl ?_
        refine r_goto G 23 dL_law_2581 (by decide) ?_
        refine r_weak (lv' := [(0, .ref b), (1, .ref x1), (2, .ref x2), (3, .ref x3), (4, .int (x4 + 7))]) [3, 4, 5, 6, 0] rfl ?_
        exact hk23 x1 x2 x3 (x4 + 7) w16 _ _ (by omega) (by omega) hyp
      · refine r_iconst (v := 0) G dL_law_301 (by decide) ?_
        exact r_lwF hyp
  · refine r_iconst (v := 0) G dL_law_284 (by decide) ?_
    exact r_lwF hyp
end
section
variable {Γ : xG} {p : Program} {l : Launch} {e : Env} {s : State} {m : MethodId} {below : List Frame} {meth : Method} {c : Code} {wF : xW} {b L : Nat} {xs : Nat → Int32}
set_option maxRecDepth 100000 in
set_option maxHeartbeats 4000000 in
theorem nd_L_law_J306 {k23 : Nat → Nat → Nat → Int32 → xW → xO Int32} (G : xCx Γ p l s m #[Value.ref b] meth c RL cL_law 9 (some .boolean)) (hN : xNc s) (hX : xSc Γ b L xs s) (n : Nat) (hk23 : ∀ (x1 : Nat) (x2 : Nat) (x3 : Nat) (x4 : Int32) (w : xW) (cells slots : Nat), cells + n * 1 ≤ 601024 → slots + n * 6 ≤ 7293034 → k23 x1 x2 x3 x4 w = some (Sum.inl (1 : Int32), wF) → xAW Γ p l e room_1 s m #[Value.ref b] below meth c 9 (lw_Z below #[Value.ref b] s) w cells slots 23 [(0, .ref b), (1, .ref x1), (2, .ref x2), (3, .ref x3), (4, .int x4)] []) (x1 : Nat) (x2 : Nat) (x3 : Nat) (x4 : Int32) (w0 : xW) (cells slots : Nat) (hcl : cells + (n + 1) * 1 ≤ 601024) (hsl : slots + (n + 1) * 6 ≤ 7293034) (hyp : f_L_law_J306 xs L k23 x1 x2 x3 x4 w0 = some (Sum.inl (1 : Int32), wF)) : xAW Γ p l e room_1 s m #[Value.ref b] below meth c 9 (lw_Z below #[Value.ref b] s) w0 cells slots 306 [(0, .ref b), (1, .ref x1), (2, .ref x2), (3, .ref x3), (4, .int x4)] [] := by
  rw [f_L_law_J306] at hyp
  refine r_aload_n G 1 dL_law_306 rfl rfl ?_
  refine r_aload_n G 0 dL_law_307 rfl rfl ?_
  refine r_iload G 4 dL_law_308 rfl ?_
  refine r_iconst (v := 1) G dL_law_310 (by decide) ?_
  refine r_iadd G dL_law_311 ?_
  obtain ⟨h24, hyp⟩ := x_chk hyp
  refine r_sld G hX h24 dL_law_312 ?_
  refine r_aload_n G 3 dL_law_313 rfl rfl ?_
  refine r_callLS (ι := xI) (rest := []) (As := [va_rf (some x1), .int (xs ((x4 + 1)).toNatClampNeg), va_rf (some x3)]) G hN tgh_L_removeLayer (fun r w' h => ct_L_removeLayer (xhl G) _ _ _ _ r w' h) hyp ww_999 ww_1000 (by decide) (by decide) (by first | exact ⟨Nat.le_of_ble_eq_true rfl, Nat.le_of_ble_eq_true rfl⟩ | (constructor <;> (show _ ≤ _; simp only [room_1]; omega))) rfl rfl (xroom (Nat.le_of_ble_eq_true rfl)) dL_law_314 (push := (fun r26 => [.int r26])) (fun _ => rfl) (fun r26 w25 hyp => ?_)
  refine r_istore (lv' := [(5, .int r26), (0, .ref b), (1, .ref x1), (2, .ref x2), (3, .ref x3), (4, .int x4)]) G dL_law_317 (by decide) ⟨fun _ => rfl, fun _ => rfl, fun _ => rfl, fun _ => rfl, fun _ => rfl, trivial⟩ rfl ?_
  refine r_aload_n G 3 dL_law_319 rfl rfl ?_
  refine r_aload_n G 1 dL_law_320 rfl rfl ?_
  refine r_iload G 5 dL_law_321 rfl ?_
  refine r_iconst (v := 1) G dL_law_323 (by decide) ?_
  refine r_iadd G dL_law_324 ?_
  obtain ⟨h27, hyp⟩ := x_chk hyp
  refine r_sld G hX h27 dL_law_325 ?_
  obtain ⟨o30, hyp⟩ := x_chk hyp
  refine r_callLV (ι := xI) (T := TX7) (N := 22) (ci := 7) (b := x2) (rest := []) (As := [.int (xs ((x4 + 1)).toNatClampNeg)]) G tg_X7_removeLayer (fun r w' h => ct_X7_removeLayer (xhl G) _ _ _ r w' h) o30 hyp rfl ww_1001 ww_1003 ww_1002 (by decide) (by decide) (by first | exact ⟨Nat.le_of_ble_eq_true rfl, Nat.le_of_ble_eq_true rfl⟩ | (constructor <;> (show _ ≤ _; simp only [room_1]; omega))) rfl rfl (xroom (Nat.le_of_ble_eq_true rfl)) dL_law_326 (push := (fun r29 => [.int r29])) (fun _ => rfl) (fun r29 w28 hyp => ?_)
  refine r_istore (lv' := [(6, .int r29), (5, .int r26), (0, .ref b), (1, .ref x1), (2, .ref x2), (3, .ref x3), (4, .int x4)]) G dL_law_329 (by decide) ⟨fun _ => rfl, fun _ => rfl, fun _ => rfl, fun _ => rfl, fun _ => rfl, fun _ => rfl, trivial⟩ rfl ?_
  refine r_aload_n G 4 dL_law_331 rfl rfl ?_
  obtain ⟨o33, hyp⟩ := x_chk hyp
  refine r_callLV (ι := xI) (T := TX7) (N := 22) (ci := 7) (b := x2) (rest := []) (As := []) G tg_X7_thrown (fun r w' h => ct_X7_thrown (xhl G) _ _ r w' h) o33 hyp rfl ww_996 ww_998 ww_997 (by decide) (by decide) (by first | exact ⟨Nat.le_of_ble_eq_true rfl, Nat.le_of_ble_eq_true rfl⟩ | (constructor <;> (show _ ≤ _; simp only [room_1]; omega))) rfl rfl (xroom (Nat.le_of_ble_eq_true rfl)) dL_law_332 (push := (fun r32 => [.int r32])) (fun _ => rfl) (fun r32 w31 hyp => ?_)
  refine r_iload G 1 dL_law_335 rfl ?_
  refine r_icmp_eq G 342 dL_law_337 (by decide) hyp (fun c34 hyp => ?_) (fun c34 hyp => ?_)
  · refine r_iload G 1 dL_law_342 rfl ?_
    refine r_if_ne G 359 dL_law_344 (by decide) hyp (fun c35 hyp => ?_) (fun c35 hyp => ?_)
    · refine r_goto G 2578 dL_law_359 (by decide) ?_
      refine r_iinc (v := (x4 + 7)) (lv' := [(4, .int (x4 + 7)), (6, .int r29), (5, .int r26), (0, .ref b), (1, .ref x1), (2, .ref x2), (3, .ref x3)]) G 6 dL_law_2578 rfl rfl (by decide) ⟨fun _ => rfl, fun _ => rfl, fun _ => rfl, fun _ => rfl, fun _ => rfl, fun _ => rfl, fun _ => rfl, trivial⟩ rfl ?_
      refine r_goto G 23 dL_law_2581 (by decide) ?_
      refine r_weak (lv' := [(0, .ref b), (1, .ref x1), (2, .ref x2), (3, .ref x3), (4, .int (x4 + 7))]) [3, 4, 5, 6, 0] rfl ?_
      exact hk23 x1 x2 x3 (x4 + 7) w31 _ _ (by omega) (by omega) hyp
    · refine r_aload_n G 5 dL_law_347 rfl rfl ?_
      refine r_iconst (v := 0) G dL_law_348 (by decide) ?_
      obtain ⟨v36, hv36, hyp⟩ := x_some hyp
      refine r_lald G hv36 dL_law_349 ?_
      refine r_iload G 0 dL_law_350 rfl ?_
      refine r_i2l G dL_law_352 ?_
      refine r_lcmp G dL_law_353 ?_
      refine r_if_eq G 359 dL_law_354 (by decide) hyp (fun c37 hyp => ?_) (fun c37 hyp => ?_)
      · refine r_goto G 2578 dL_law_359 (by decide) ?_
        refine r_iinc (v := (x4 + 7)) (lv' := [(4, .int (x4 + 7)), (6, .int r29), (5, .int r26), (0, .ref b), (1, .ref x1), (2, .ref x2), (3, .ref x3)]) G 6 dL_law_2578 rfl rfl (by decide) ⟨fun _ => rfl, fun _ => rfl, fun _ => rfl, fun _ => rfl, fun _ => rfl, fun _ => rfl, fun _ => rfl, trivial⟩ rfl ?_
        refine r_goto G 23 dL_law_2581 (by decide) ?_
        refine r_weak (lv' := [(0, .ref b), (1, .ref x1), (2, .ref x2), (3, .ref x3), (4, .int (x4 + 7))]) [3, 4, 5, 6, 0] rfl ?_
        exact hk23 x1 x2 x3 (x4 + 7) w31 _ _ (by omega) (by omega) hyp
      · refine r_iconst (v := 0) G dL_law_357 (by decide) ?_
        exact r_lwF hyp
  · refine r_iconst (v := 0) G dL_law_340 (by decide) ?_
    exact r_lwF hyp
end
section
variable {Γ : xG} {p : Program} {l : Launch} {e : Env} {s : State} {m : MethodId} {below : List Frame} {meth : Method} {c : Code} {wF : xW} {b L : Nat} {xs : Nat → Int32}
set_option maxRecDepth 100000 in
set_option maxHeartbeats 4000000 in
theorem nd_L_law_J362 {k23 : Nat → Nat → Nat → Int32 → xW → xO Int32} (G : xCx Γ p l s m #[Value.ref b] meth c RL cL_law 9 (some .boolean)) (hN : xNc s) (hX : xSc Γ b L xs s) (n : Nat) (hk23 : ∀ (x1 : Nat) (x2 : Nat) (x3 : Nat) (x4 : Int32) (w : xW) (cells slots : Nat), cells + n * 1 ≤ 601024 → slots + n * 6 ≤ 7293034 → k23 x1 x2 x3 x4 w = some (Sum.inl (1 : Int32), wF) → xAW Γ p l e room_1 s m #[Value.ref b] below meth c 9 (lw_Z below #[Value.ref b] s) w cells slots 23 [(0, .ref b), (1, .ref x1), (2, .ref x2), (3, .ref x3), (4, .int x4)] []) (x1 : Nat) (x2 : Nat) (x3 : Nat) (x4 : Int32) (w0 : xW) (cells slots : Nat) (hcl : cells + (n + 1) * 1 ≤ 601024) (hsl : slots + (n + 1) * 6 ≤ 7293034) (hyp : f_L_law_J362 xs L k23 x1 x2 x3 x4 w0 = some (Sum.inl (1 : Int32), wF)) : xAW Γ p l e room_1 s m #[Value.ref b] below meth c 9 (lw_Z below #[Value.ref b] s) w0 cells slots 362 [(0, .ref b), (1, .ref x1), (2, .ref x2), (3, .ref x3), (4, .int x4)] [] := by
  rw [f_L_law_J362] at hyp
  refine r_aload_n G 1 dL_law_362 rfl rfl ?_
  refine r_aload_n G 0 dL_law_363 rfl rfl ?_
  refine r_iload G 4 dL_law_364 rfl ?_
  refine r_iconst (v := 1) G dL_law_366 (by decide) ?_
  refine r_iadd G dL_law_367 ?_
  obtain ⟨h39, hyp⟩ := x_chk hyp
  refine r_sld G hX h39 dL_law_368 ?_
  refine r_aload_n G 0 dL_law_369 rfl rfl ?_
  refine r_iload G 4 dL_law_370 rfl ?_
  refine r_iconst (v := 2) G dL_law_372 (by decide) ?_
  refine r_iadd G dL_law_373 ?_
  obtain ⟨h40, hyp⟩ := x_chk hyp
  refine r_sld G hX h40 dL_law_374 ?_
  refine r_aload_n G 0 dL_law_375 rfl rfl ?_
  refine r_iload G 4 dL_law_376 rfl ?_
  refine r_iconst (v := 3) G dL_law_378 (by decide) ?_
  refine r_iadd G dL_law_379 ?_
  obtain ⟨h41, hyp⟩ := x_chk hyp
  refine r_sld G hX h41 dL_law_380 ?_
  refine r_aload_n G 0 dL_law_381 rfl rfl ?_
  refine r_iload G 4 dL_law_382 rfl ?_
  refine r_iconst (v := 4) G dL_law_384 (by decide) ?_
  refine r_iadd G dL_law_385 ?_
  obtain ⟨h42, hyp⟩ := x_chk hyp
  refine r_sld G hX h42 dL_law_386 ?_
  refine r_aload_n G 0 dL_law_387 rfl rfl ?_
  refine r_iload G 4 dL_law_388 rfl ?_
  refine r_iconst (v := 5) G dL_law_390 (by decide) ?_
  refine r_iadd G dL_law_391 ?_
  obtain ⟨h43, hyp⟩ := x_chk hyp
  refine r_sld G hX h43 dL_law_392 ?_
  refine r_aload_n G 0 dL_law_393 rfl rfl ?_
  refine r_iload G 4 dL_law_394 rfl ?_
  refine r_bipush (v := 6) G dL_law_396 (by decide) ?_
  refine r_iadd G dL_law_398 ?_
  obtain ⟨h44, hyp⟩ := x_chk hyp
  refine r_sld G hX h44 dL_law_399 ?_
  refine r_aload_n G 3 dL_law_400 rfl rfl ?_
  refine r_callLS (ι := xI) (rest := []) (As := [va_rf (some x1), .int (xs ((x4 + 1)).toNatClampNeg), .int (xs ((x4 + 2)).toNatClampNeg), .int (xs ((x4 + 3)).toNatClampNeg), .int (xs ((x4 + 4)).toNatClampNeg), .int (xs ((x4 + 5)).toNatClampNeg), .int (xs ((x4 + 6)).toNatClampNeg), va_rf (some x3)]) G hN tgh_L_paint (fun r w' h => ct_L_paint (xhl G) _ _ _ _ _ _ _ _ _ r w' h) hyp ww_1004 ww_1005 (by decide) (by decide) (by first | exact ⟨Nat.le_of_ble_eq_true rfl, Nat.le_of_ble_eq_true rfl⟩ | (constructor <;> (show _ ≤ _; simp only [room_1]; omega))) rfl rfl (xroom (Nat.le_of_ble_eq_true rfl)) dL_law_401 (push := (fun r46 => [.int r46])) (fun _ => rfl) (fun r46 w45 hyp => ?_)
  refine r_istore (lv' := [(5, .int r46), (0, .ref b), (1, .ref x1), (2, .ref x2), (3, .ref x3), (4, .int x4)]) G dL_law_404 (by decide) ⟨fun _ => rfl, fun _ => rfl, fun _ => rfl, fun _ => rfl, fun _ => rfl, trivial⟩ rfl ?_
  refine r_aload_n G 3 dL_law_406 rfl rfl ?_
  refine r_aload_n G 1 dL_law_407 rfl rfl ?_
  refine r_iload G 5 dL_law_408 rfl ?_
  refine r_iconst (v := 1) G dL_law_410 (by decide) ?_
  refine r_iadd G dL_law_411 ?_
  obtain ⟨h47, hyp⟩ := x_chk hyp
  refine r_sld G hX h47 dL_law_412 ?_
  refine r_aload_n G 1 dL_law_413 rfl rfl ?_
  refine r_iload G 5 dL_law_414 rfl ?_
  refine r_iconst (v := 2) G dL_law_416 (by decide) ?_
  refine r_iadd G dL_law_417 ?_
  obtain ⟨h48, hyp⟩ := x_chk hyp
  refine r_sld G hX h48 dL_law_418 ?_
  refine r_aload_n G 1 dL_law_419 rfl rfl ?_
  refine r_iload G 5 dL_law_420 rfl ?_
  refine r_iconst (v := 3) G dL_law_422 (by decide) ?_
  refine r_iadd G dL_law_423 ?_
  obtain ⟨h49, hyp⟩ := x_chk hyp
  refine r_sld G hX h49 dL_law_424 ?_
  refine r_aload_n G 1 dL_law_425 rfl rfl ?_
  refine r_iload G 5 dL_law_426 rfl ?_
  refine r_iconst (v := 4) G dL_law_428 (by decide) ?_
  refine r_iadd G dL_law_429 ?_
  obtain ⟨h50, hyp⟩ := x_chk hyp
  refine r_sld G hX h50 dL_law_430 ?_
  refine r_aload_n G 1 dL_law_431 rfl rfl ?_
  refine r_iload G 5 dL_law_432 rfl ?_
  refine r_iconst (v := 5) G dL_law_434 (by decide) ?_
  refine r_iadd G dL_law_435 ?_
  obtain ⟨h51, hyp⟩ := x_chk hyp
  refine r_sld G hX h51 dL_law_436 ?_
  refine r_aload_n G 1 dL_law_437 rfl rfl ?_
  refine r_iload G 5 dL_law_438 rfl ?_
  refine r_bipush (v := 6) G dL_law_440 (by decide) ?_
  refine r_iadd G dL_law_442 ?_
  obtain ⟨h52, hyp⟩ := x_chk hyp
  refine r_sld G hX h52 dL_law_443 ?_
  obtain ⟨o55, hyp⟩ := x_chk hyp
  refine r_callLV (ι := xI) (T := TX7) (N := 22) (ci := 7) (b := x2) (rest := []) (As := [.int (xs ((x4 + 1)).toNatClampNeg), .int (xs ((x4 + 2)).toNatClampNeg), .int (xs ((x4 + 3)).toNatClampNeg), .int (xs ((x4 + 4)).toNatClampNeg), .int (xs ((x4 + 5)).toNatClampNeg), .int (xs ((x4 + 6)).toNatClampNeg)]) G tg_X7_paint (fun r w' h => ct_X7_paint (xhl G) _ _ _ _ _ _ _ _ r w' h) o55 hyp rfl ww_1006 ww_1008 ww_1007 (by decide) (by decide) (by first | exact ⟨Nat.le_of_ble_eq_true rfl, Nat.le_of_ble_eq_true rfl⟩ | (constructor <;> (show _ ≤ _; simp only [room_1]; omega))) rfl rfl (xroom (Nat.le_of_ble_eq_true rfl)) dL_law_444 (push := (fun r54 => [.int r54])) (fun _ => rfl) (fun r54 w53 hyp => ?_)
  refine r_istore (lv' := [(6, .int r54), (5, .int r46), (0, .ref b), (1, .ref x1), (2, .ref x2), (3, .ref x3), (4, .int x4)]) G dL_law_447 (by decide) ⟨fun _ => rfl, fun _ => rfl, fun _ => rfl, fun _ => rfl, fun _ => rfl, fun _ => rfl, trivial⟩ rfl ?_
  refine r_aload_n G 4 dL_law_449 rfl rfl ?_
  obtain ⟨o58, hyp⟩ := x_chk hyp
  refine r_callLV (ι := xI) (T := TX7) (N := 22) (ci := 7) (b := x2) (rest := []) (As := []) G tg_X7_thrown (fun r w' h => ct_X7_thrown (xhl G) _ _ r w' h) o58 hyp rfl ww_996 ww_998 ww_997 (by decide) (by decide) (by first | exact ⟨Nat.le_of_ble_eq_true rfl, Nat.le_of_ble_eq_true rfl⟩ | (constructor <;> (show _ ≤ _; simp only [room_1]; omega))) rfl rfl (xroom (Nat.le_of_ble_eq_true rfl)) dL_law_450 (push := (fun r57 => [.int r57])) (fun _ => rfl) (fun r57 w56 hyp => ?_)
  refine r_iload G 1 dL_law_453 rfl ?_
  refine r_icmp_eq G 460 dL_law_455 (by decide) hyp (fun c59 hyp => ?_) (fun c59 hyp => ?_)
  · refine r_iload G 1 dL_law_460 rfl ?_
    refine r_if_ne G 477 dL_law_462 (by decide) hyp (fun c60 hyp => ?_) (fun c60 hyp => ?_)
    · refine r_goto G 2578 dL_law_477 (by decide) ?_
      refine r_iinc (v := (x4 + 7)) (lv' := [(4, .int (x4 + 7)), (6, .int r54), (5, .int r46), (0, .ref b), (1, .ref x1), (2, .ref x2), (3, .ref x3)]) G 6 dL_law_2578 rfl rfl (by decide) ⟨fun _ => rfl, fun _ => rfl, fun _ => rfl, fun _ => rfl, fun _ => rfl, fun _ => rfl, fun _ => rfl, trivial⟩ rfl ?_
      refine r_goto G 23 dL_law_2581 (by decide) ?_
      refine r_weak (lv' := [(0, .ref b), (1, .ref x1), (2, .ref x2), (3, .ref x3), (4, .int (x4 + 7))]) [3, 4, 5, 6, 0] rfl ?_
      exact hk23 x1 x2 x3 (x4 + 7) w56 _ _ (by omega) (by omega) hyp
    · refine r_aload_n G 5 dL_law_465 rfl rfl ?_
      refine r_iconst (v := 0) G dL_law_466 (by decide) ?_
      obtain ⟨v61, hv61, hyp⟩ := x_some hyp
      refine r_lald G hv61 dL_law_467 ?_
      refine r_iload G 0 dL_law_468 rfl ?_
      refine r_i2l G dL_law_470 ?_
      refine r_lcmp G dL_law_471 ?_
      refine r_if_eq G 477 dL_law_472 (by decide) hyp (fun c62 hyp => ?_) (fun c62 hyp => ?_)
      · refine r_goto G 2578 dL_law_477 (by decide) ?_
        refine r_iinc (v := (x4 + 7)) (lv' := [(4, .int (x4 + 7)), (6, .int r54), (5, .int r46), (0, .ref b), (1, .ref x1), (2, .ref x2), (3, .ref x3)]) G 6 dL_law_2578 rfl rfl (by decide) ⟨fun _ => rfl, fun _ => rfl, fun _ => rfl, fun _ => rfl, fun _ => rfl, fun _ => rfl, fun _ => rfl, trivial⟩ rfl ?_
        refine r_goto G 23 dL_law_2581 (by decide) ?_
        refine r_weak (lv' := [(0, .ref b), (1, .ref x1), (2, .ref x2), (3, .ref x3), (4, .int (x4 + 7))]) [3, 4, 5, 6, 0] rfl ?_
        exact hk23 x1 x2 x3 (x4 + 7) w56 _ _ (by omega) (by omega) hyp
      · refine r_iconst (v := 0) G dL_law_475 (by decide) ?_
        exact r_lwF hyp
  · refine r_iconst (v := 0) G dL_law_458 (by decide) ?_
    exact r_lwF hyp
end
section
variable {Γ : xG} {p : Program} {l : Launch} {e : Env} {s : State} {m : MethodId} {below : List Frame} {meth : Method} {c : Code} {wF : xW} {b L : Nat} {xs : Nat → Int32}
set_option maxRecDepth 100000 in
set_option maxHeartbeats 4000000 in
theorem nd_L_law_J480 {k23 : Nat → Nat → Nat → Int32 → xW → xO Int32} (G : xCx Γ p l s m #[Value.ref b] meth c RL cL_law 9 (some .boolean)) (hN : xNc s) (hX : xSc Γ b L xs s) (n : Nat) (hk23 : ∀ (x1 : Nat) (x2 : Nat) (x3 : Nat) (x4 : Int32) (w : xW) (cells slots : Nat), cells + n * 1 ≤ 601024 → slots + n * 6 ≤ 7293034 → k23 x1 x2 x3 x4 w = some (Sum.inl (1 : Int32), wF) → xAW Γ p l e room_1 s m #[Value.ref b] below meth c 9 (lw_Z below #[Value.ref b] s) w cells slots 23 [(0, .ref b), (1, .ref x1), (2, .ref x2), (3, .ref x3), (4, .int x4)] []) (x1 : Nat) (x2 : Nat) (x3 : Nat) (x4 : Int32) (w0 : xW) (cells slots : Nat) (hcl : cells + (n + 1) * 1 ≤ 601024) (hsl : slots + (n + 1) * 6 ≤ 7293034) (hyp : f_L_law_J480 xs L k23 x1 x2 x3 x4 w0 = some (Sum.inl (1 : Int32), wF)) : xAW Γ p l e room_1 s m #[Value.ref b] below meth c 9 (lw_Z below #[Value.ref b] s) w0 cells slots 480 [(0, .ref b), (1, .ref x1), (2, .ref x2), (3, .ref x3), (4, .int x4)] [] := by
  rw [f_L_law_J480] at hyp
  refine r_aload_n G 1 dL_law_480 rfl rfl ?_
  refine r_aload_n G 0 dL_law_481 rfl rfl ?_
  refine r_iload G 4 dL_law_482 rfl ?_
  refine r_iconst (v := 1) G dL_law_484 (by decide) ?_
  refine r_iadd G dL_law_485 ?_
  obtain ⟨h64, hyp⟩ := x_chk hyp
  refine r_sld G hX h64 dL_law_486 ?_
  refine r_aload_n G 0 dL_law_487 rfl rfl ?_
  refine r_iload G 4 dL_law_488 rfl ?_
  refine r_iconst (v := 2) G dL_law_490 (by decide) ?_
  refine r_iadd G dL_law_491 ?_
  obtain ⟨h65, hyp⟩ := x_chk hyp
  refine r_sld G hX h65 dL_law_492 ?_
  refine r_aload_n G 0 dL_law_493 rfl rfl ?_
  refine r_iload G 4 dL_law_494 rfl ?_
  refine r_iconst (v := 3) G dL_law_496 (by decide) ?_
  refine r_iadd G dL_law_497 ?_
  obtain ⟨h66, hyp⟩ := x_chk hyp
  refine r_sld G hX h66 dL_law_498 ?_
  refine r_aload_n G 0 dL_law_499 rfl rfl ?_
  refine r_iload G 4 dL_law_500 rfl ?_
  refine r_iconst (v := 4) G dL_law_502 (by decide) ?_
  refine r_iadd G dL_law_503 ?_
  obtain ⟨h67, hyp⟩ := x_chk hyp
  refine r_sld G hX h67 dL_law_504 ?_
  refine r_aload_n G 3 dL_law_505 rfl rfl ?_
  refine r_callLS (ι := xI) (rest := []) (As := [va_rf (some x1), .int (xs ((x4 + 1)).toNatClampNeg), .int (xs ((x4 + 2)).toNatClampNeg), .int (xs ((x4 + 3)).toNatClampNeg), .int (xs ((x4 + 4)).toNatClampNeg), va_rf (some x3)]) G hN tgh_L_erase (fun r w' h => ct_L_erase (xhl G) _ _ _ _ _ _ _ r w' h) hyp ww_1009 ww_1010 (by decide) (by decide) (by first | exact ⟨Nat.le_of_ble_eq_true rfl, Nat.le_of_ble_eq_true rfl⟩ | (constructor <;> (show _ ≤ _; simp only [room_1]; omega))) rfl rfl (xroom (Nat.le_of_ble_eq_true rfl)) dL_law_506 (push := (fun r69 => [.int r69])) (fun _ => rfl) (fun r69 w68 hyp => ?_)
  refine r_istore (lv' := [(5, .int r69), (0, .ref b), (1, .ref x1), (2, .ref x2), (3, .ref x3), (4, .int x4)]) G dL_law_509 (by decide) ⟨fun _ => rfl, fun _ => rfl, fun _ => rfl, fun _ => rfl, fun _ => rfl, trivial⟩ rfl ?_
  refine r_aload_n G 3 dL_law_511 rfl rfl ?_
  refine r_aload_n G 1 dL_law_512 rfl rfl ?_
  refine r_iload G 5 dL_law_513 rfl ?_
  refine r_iconst (v := 1) G dL_law_515 (by decide) ?_
  refine r_iadd G dL_law_516 ?_
  obtain ⟨h70, hyp⟩ := x_chk hyp
  refine r_sld G hX h70 dL_law_517 ?_
  refine r_aload_n G 1 dL_law_518 rfl rfl ?_
  refine r_iload G 5 dL_law_519 rfl ?_
  refine r_iconst (v := 2) G dL_law_521 (by decide) ?_
  refine r_iadd G dL_law_522 ?_
  obtain ⟨h71, hyp⟩ := x_chk hyp
  refine r_sld G hX h71 dL_law_523 ?_
  refine r_aload_n G 1 dL_law_524 rfl rfl ?_
  refine r_iload G 5 dL_law_525 rfl ?_
  refine r_iconst (v := 3) G dL_law_527 (by decide) ?_
  refine r_iadd G dL_law_528 ?_
  obtain ⟨h72, hyp⟩ := x_chk hyp
  refine r_sld G hX h72 dL_law_529 ?_
  refine r_aload_n G 1 dL_law_530 rfl rfl ?_
  refine r_iload G 5 dL_law_531 rfl ?_
  refine r_iconst (v := 4) G dL_law_533 (by decide) ?_
  refine r_iadd G dL_law_534 ?_
  obtain ⟨h73, hyp⟩ := x_chk hyp
  refine r_sld G hX h73 dL_law_535 ?_
  obtain ⟨o76, hyp⟩ := x_chk hyp
  refine r_callLV (ι := xI) (T := TX7) (N := 22) (ci := 7) (b := x2) (rest := []) (As := [.int (xs ((x4 + 1)).toNatClampNeg), .int (xs ((x4 + 2)).toNatClampNeg), .int (xs ((x4 + 3)).toNatClampNeg), .int (xs ((x4 + 4)).toNatClampNeg)]) G tg_X7_erase (fun r w' h => ct_X7_erase (xhl G) _ _ _ _ _ _ r w' h) o76 hyp rfl ww_1011 ww_1013 ww_1012 (by decide) (by decide) (by first | exact ⟨Nat.le_of_ble_eq_true rfl, Nat.le_of_ble_eq_true rfl⟩ | (constructor <;> (show _ ≤ _; simp only [room_1]; omega))) rfl rfl (xroom (Nat.le_of_ble_eq_true rfl)) dL_law_536 (push := (fun r75 => [.int r75])) (fun _ => rfl) (fun r75 w74 hyp => ?_)
  refine r_istore (lv' := [(6, .int r75), (5, .int r69), (0, .ref b), (1, .ref x1), (2, .ref x2), (3, .ref x3), (4, .int x4)]) G dL_law_539 (by decide) ⟨fun _ => rfl, fun _ => rfl, fun _ => rfl, fun _ => rfl, fun _ => rfl, fun _ => rfl, trivial⟩ rfl ?_
  refine r_aload_n G 4 dL_law_541 rfl rfl ?_
  obtain ⟨o79, hyp⟩ := x_chk hyp
  refine r_callLV (ι := xI) (T := TX7) (N := 22) (ci := 7) (b := x2) (rest := []) (As := []) G tg_X7_thrown (fun r w' h => ct_X7_thrown (xhl G) _ _ r w' h) o79 hyp rfl ww_996 ww_998 ww_997 (by decide) (by decide) (by first | exact ⟨Nat.le_of_ble_eq_true rfl, Nat.le_of_ble_eq_true rfl⟩ | (constructor <;> (show _ ≤ _; simp only [room_1]; omega))) rfl rfl (xroom (Nat.le_of_ble_eq_true rfl)) dL_law_542 (push := (fun r78 => [.int r78])) (fun _ => rfl) (fun r78 w77 hyp => ?_)
  refine r_iload G 1 dL_law_545 rfl ?_
  refine r_icmp_eq G 552 dL_law_547 (by decide) hyp (fun c80 hyp => ?_) (fun c80 hyp => ?_)
  · refine r_iload G 1 dL_law_552 rfl ?_
    refine r_if_ne G 569 dL_law_554 (by decide) hyp (fun c81 hyp => ?_) (fun c81 hyp => ?_)
    · refine r_goto G 2578 dL_law_569 (by decide) ?_
      refine r_iinc (v := (x4 + 7)) (lv' := [(4, .int (x4 + 7)), (6, .int r75), (5, .int r69), (0, .ref b), (1, .ref x1), (2, .ref x2), (3, .ref x3)]) G 6 dL_law_2578 rfl rfl (by decide) ⟨fun _ => rfl, fun _ => rfl, fun _ => rfl, fun _ => rfl, fun _ => rfl, fun _ => rfl, fun _ => rfl, trivial⟩ rfl ?_
      refine r_goto G 23 dL_law_2581 (by decide) ?_
      refine r_weak (lv' := [(0, .ref b), (1, .ref x1), (2, .ref x2), (3, .ref x3), (4, .int (x4 + 7))]) [3, 4, 5, 6, 0] rfl ?_
      exact hk23 x1 x2 x3 (x4 + 7) w77 _ _ (by omega) (by omega) hyp
    · refine r_aload_n G 5 dL_law_557 rfl rfl ?_
      refine r_iconst (v := 0) G dL_law_558 (by decide) ?_
      obtain ⟨v82, hv82, hyp⟩ := x_some hyp
      refine r_lald G hv82 dL_law_559 ?_
      refine r_iload G 0 dL_law_560 rfl ?_
      refine r_i2l G dL_law_562 ?_
      refine r_lcmp G dL_law_563 ?_
      refine r_if_eq G 569 dL_law_564 (by decide) hyp (fun c83 hyp => ?_) (fun c83 hyp => ?_)
      · refine r_goto G 2578 dL_law_569 (by decide) ?_
        refine r_iinc (v := (x4 + 7)) (lv' := [(4, .int (x4 + 7)), (6, .int r75), (5, .int r69), (0, .ref b), (1, .ref x1), (2, .ref x2), (3, .ref x3)]) G 6 dL_law_2578 rfl rfl (by decide) ⟨fun _ => rfl, fun _ => rfl, fun _ => rfl, fun _ => rfl, fun _ => rfl, fun _ => rfl, fun _ => rfl, trivial⟩ rfl ?_
        refine r_goto G 23 dL_law_2581 (by decide) ?_
        refine r_weak (lv' := [(0, .ref b), (1, .ref x1), (2, .ref x2), (3, .ref x3), (4, .int (x4 + 7))]) [3, 4, 5, 6, 0] rfl ?_
        exact hk23 x1 x2 x3 (x4 + 7) w77 _ _ (by omega) (by omega) hyp
      · refine r_iconst (v := 0) G dL_law_567 (by decide) ?_
        exact r_lwF hyp
  · refine r_iconst (v := 0) G dL_law_550 (by decide) ?_
    exact r_lwF hyp
end
section
variable {Γ : xG} {p : Program} {l : Launch} {e : Env} {s : State} {m : MethodId} {below : List Frame} {meth : Method} {c : Code} {wF : xW} {b L : Nat} {xs : Nat → Int32}
set_option maxRecDepth 100000 in
set_option maxHeartbeats 4000000 in
theorem nd_L_law_J572 {k23 : Nat → Nat → Nat → Int32 → xW → xO Int32} (G : xCx Γ p l s m #[Value.ref b] meth c RL cL_law 9 (some .boolean)) (hN : xNc s) (hX : xSc Γ b L xs s) (n : Nat) (hk23 : ∀ (x1 : Nat) (x2 : Nat) (x3 : Nat) (x4 : Int32) (w : xW) (cells slots : Nat), cells + n * 1 ≤ 601024 → slots + n * 6 ≤ 7293034 → k23 x1 x2 x3 x4 w = some (Sum.inl (1 : Int32), wF) → xAW Γ p l e room_1 s m #[Value.ref b] below meth c 9 (lw_Z below #[Value.ref b] s) w cells slots 23 [(0, .ref b), (1, .ref x1), (2, .ref x2), (3, .ref x3), (4, .int x4)] []) (x1 : Nat) (x2 : Nat) (x3 : Nat) (x4 : Int32) (w0 : xW) (cells slots : Nat) (hcl : cells + (n + 1) * 1 ≤ 601024) (hsl : slots + (n + 1) * 6 ≤ 7293034) (hyp : f_L_law_J572 xs L k23 x1 x2 x3 x4 w0 = some (Sum.inl (1 : Int32), wF)) : xAW Γ p l e room_1 s m #[Value.ref b] below meth c 9 (lw_Z below #[Value.ref b] s) w0 cells slots 572 [(0, .ref b), (1, .ref x1), (2, .ref x2), (3, .ref x3), (4, .int x4)] [] := by
  rw [f_L_law_J572] at hyp
  refine r_aload_n G 1 dL_law_572 rfl rfl ?_
  refine r_aload_n G 0 dL_law_573 rfl rfl ?_
  refine r_iload G 4 dL_law_574 rfl ?_
  refine r_iconst (v := 1) G dL_law_576 (by decide) ?_
  refine r_iadd G dL_law_577 ?_
  obtain ⟨h85, hyp⟩ := x_chk hyp
  refine r_sld G hX h85 dL_law_578 ?_
  refine r_aload_n G 3 dL_law_579 rfl rfl ?_
  refine r_callLS (ι := xI) (rest := []) (As := [va_rf (some x1), .int (xs ((x4 + 1)).toNatClampNeg), va_rf (some x3)]) G hN tgh_L_hide (fun r w' h => ct_L_hide (xhl G) _ _ _ _ r w' h) hyp ww_1014 ww_1015 (by decide) (by decide) (by first | exact ⟨Nat.le_of_ble_eq_true rfl, Nat.le_of_ble_eq_true rfl⟩ | (constructor <;> (show _ ≤ _; simp only [room_1]; omega))) rfl rfl (xroom (Nat.le_of_ble_eq_true rfl)) dL_law_580 (push := (fun r87 => [.int r87])) (fun _ => rfl) (fun r87 w86 hyp => ?_)
  refine r_istore (lv' := [(5, .int r87), (0, .ref b), (1, .ref x1), (2, .ref x2), (3, .ref x3), (4, .int x4)]) G dL_law_583 (by decide) ⟨fun _ => rfl, fun _ => rfl, fun _ => rfl, fun _ => rfl, fun _ => rfl, trivial⟩ rfl ?_
  refine r_aload_n G 3 dL_law_585 rfl rfl ?_
  refine r_aload_n G 1 dL_law_586 rfl rfl ?_
  refine r_iload G 5 dL_law_587 rfl ?_
  refine r_iconst (v := 1) G dL_law_589 (by decide) ?_
  refine r_iadd G dL_law_590 ?_
  obtain ⟨h88, hyp⟩ := x_chk hyp
  refine r_sld G hX h88 dL_law_591 ?_
  obtain ⟨o91, hyp⟩ := x_chk hyp
  refine r_callLV (ι := xI) (T := TX7) (N := 22) (ci := 7) (b := x2) (rest := []) (As := [.int (xs ((x4 + 1)).toNatClampNeg)]) G tg_X7_hide (fun r w' h => ct_X7_hide (xhl G) _ _ _ r w' h) o91 hyp rfl ww_1016 ww_1018 ww_1017 (by decide) (by decide) (by first | exact ⟨Nat.le_of_ble_eq_true rfl, Nat.le_of_ble_eq_true rfl⟩ | (constructor <;> (show _ ≤ _; simp only [room_1]; omega))) rfl rfl (xroom (Nat.le_of_ble_eq_true rfl)) dL_law_592 (push := (fun r90 => [.int r90])) (fun _ => rfl) (fun r90 w89 hyp => ?_)
  refine r_istore (lv' := [(6, .int r90), (5, .int r87), (0, .ref b), (1, .ref x1), (2, .ref x2), (3, .ref x3), (4, .int x4)]) G dL_law_595 (by decide) ⟨fun _ => rfl, fun _ => rfl, fun _ => rfl, fun _ => rfl, fun _ => rfl, fun _ => rfl, trivial⟩ rfl ?_
  refine r_aload_n G 4 dL_law_597 rfl rfl ?_
  obtain ⟨o94, hyp⟩ := x_chk hyp
  refine r_callLV (ι := xI) (T := TX7) (N := 22) (ci := 7) (b := x2) (rest := []) (As := []) G tg_X7_thrown (fun r w' h => ct_X7_thrown (xhl G) _ _ r w' h) o94 hyp rfl ww_996 ww_998 ww_997 (by decide) (by decide) (by first | exact ⟨Nat.le_of_ble_eq_true rfl, Nat.le_of_ble_eq_true rfl⟩ | (constructor <;> (show _ ≤ _; simp only [room_1]; omega))) rfl rfl (xroom (Nat.le_of_ble_eq_true rfl)) dL_law_598 (push := (fun r93 => [.int r93])) (fun _ => rfl) (fun r93 w92 hyp => ?_)
  refine r_iload G 1 dL_law_601 rfl ?_
  refine r_icmp_eq G 608 dL_law_603 (by decide) hyp (fun c95 hyp => ?_) (fun c95 hyp => ?_)
  · refine r_iload G 1 dL_law_608 rfl ?_
    refine r_if_ne G 625 dL_law_610 (by decide) hyp (fun c96 hyp => ?_) (fun c96 hyp => ?_)
    · refine r_goto G 2578 dL_law_625 (by decide) ?_
      refine r_iinc (v := (x4 + 7)) (lv' := [(4, .int (x4 + 7)), (6, .int r90), (5, .int r87), (0, .ref b), (1, .ref x1), (2, .ref x2), (3, .ref x3)]) G 6 dL_law_2578 rfl rfl (by decide) ⟨fun _ => rfl, fun _ => rfl, fun _ => rfl, fun _ => rfl, fun _ => rfl, fun _ => rfl, fun _ => rfl, trivial⟩ rfl ?_
      refine r_goto G 23 dL_law_2581 (by decide) ?_
      refine r_weak (lv' := [(0, .ref b), (1, .ref x1), (2, .ref x2), (3, .ref x3), (4, .int (x4 + 7))]) [3, 4, 5, 6, 0] rfl ?_
      exact hk23 x1 x2 x3 (x4 + 7) w92 _ _ (by omega) (by omega) hyp
    · refine r_aload_n G 5 dL_law_613 rfl rfl ?_
      refine r_iconst (v := 0) G dL_law_614 (by decide) ?_
      obtain ⟨v97, hv97, hyp⟩ := x_some hyp
      refine r_lald G hv97 dL_law_615 ?_
      refine r_iload G 0 dL_law_616 rfl ?_
      refine r_i2l G dL_law_618 ?_
      refine r_lcmp G dL_law_619 ?_
      refine r_if_eq G 625 dL_law_620 (by decide) hyp (fun c98 hyp => ?_) (fun c98 hyp => ?_)
      · refine r_goto G 2578 dL_law_625 (by decide) ?_
        refine r_iinc (v := (x4 + 7)) (lv' := [(4, .int (x4 + 7)), (6, .int r90), (5, .int r87), (0, .ref b), (1, .ref x1), (2, .ref x2), (3, .ref x3)]) G 6 dL_law_2578 rfl rfl (by decide) ⟨fun _ => rfl, fun _ => rfl, fun _ => rfl, fun _ => rfl, fun _ => rfl, fun _ => rfl, fun _ => rfl, trivial⟩ rfl ?_
        refine r_goto G 23 dL_law_2581 (by decide) ?_
        refine r_weak (lv' := [(0, .ref b), (1, .ref x1), (2, .ref x2), (3, .ref x3), (4, .int (x4 + 7))]) [3, 4, 5, 6, 0] rfl ?_
        exact hk23 x1 x2 x3 (x4 + 7) w92 _ _ (by omega) (by omega) hyp
      · refine r_iconst (v := 0) G dL_law_623 (by decide) ?_
        exact r_lwF hyp
  · refine r_iconst (v := 0) G dL_law_606 (by decide) ?_
    exact r_lwF hyp
end
section
variable {Γ : xG} {p : Program} {l : Launch} {e : Env} {s : State} {m : MethodId} {below : List Frame} {meth : Method} {c : Code} {wF : xW} {b L : Nat} {xs : Nat → Int32}
set_option maxRecDepth 100000 in
set_option maxHeartbeats 4000000 in
theorem nd_L_law_J628 {k23 : Nat → Nat → Nat → Int32 → xW → xO Int32} (G : xCx Γ p l s m #[Value.ref b] meth c RL cL_law 9 (some .boolean)) (hN : xNc s) (hX : xSc Γ b L xs s) (n : Nat) (hk23 : ∀ (x1 : Nat) (x2 : Nat) (x3 : Nat) (x4 : Int32) (w : xW) (cells slots : Nat), cells + n * 1 ≤ 601024 → slots + n * 6 ≤ 7293034 → k23 x1 x2 x3 x4 w = some (Sum.inl (1 : Int32), wF) → xAW Γ p l e room_1 s m #[Value.ref b] below meth c 9 (lw_Z below #[Value.ref b] s) w cells slots 23 [(0, .ref b), (1, .ref x1), (2, .ref x2), (3, .ref x3), (4, .int x4)] []) (x1 : Nat) (x2 : Nat) (x3 : Nat) (x4 : Int32) (w0 : xW) (cells slots : Nat) (hcl : cells + (n + 1) * 1 ≤ 601024) (hsl : slots + (n + 1) * 6 ≤ 7293034) (hyp : f_L_law_J628 xs L k23 x1 x2 x3 x4 w0 = some (Sum.inl (1 : Int32), wF)) : xAW Γ p l e room_1 s m #[Value.ref b] below meth c 9 (lw_Z below #[Value.ref b] s) w0 cells slots 628 [(0, .ref b), (1, .ref x1), (2, .ref x2), (3, .ref x3), (4, .int x4)] [] := by
  rw [f_L_law_J628] at hyp
  refine r_aload_n G 1 dL_law_628 rfl rfl ?_
  refine r_aload_n G 0 dL_law_629 rfl rfl ?_
  refine r_iload G 4 dL_law_630 rfl ?_
  refine r_iconst (v := 1) G dL_law_632 (by decide) ?_
  refine r_iadd G dL_law_633 ?_
  obtain ⟨h100, hyp⟩ := x_chk hyp
  refine r_sld G hX h100 dL_law_634 ?_
  refine r_aload_n G 3 dL_law_635 rfl rfl ?_
  refine r_callLS (ι := xI) (rest := []) (As := [va_rf (some x1), .int (xs ((x4 + 1)).toNatClampNeg), va_rf (some x3)]) G hN tgh_L_show (fun r w' h => ct_L_show (xhl G) _ _ _ _ r w' h) hyp ww_1019 ww_1020 (by decide) (by decide) (by first | exact ⟨Nat.le_of_ble_eq_true rfl, Nat.le_of_ble_eq_true rfl⟩ | (constructor <;> (show _ ≤ _; simp only [room_1]; omega))) rfl rfl (xroom (Nat.le_of_ble_eq_true rfl)) dL_law_636 (push := (fun r102 => [.int r102])) (fun _ => rfl) (fun r102 w101 hyp => ?_)
  refine r_istore (lv' := [(5, .int r102), (0, .ref b), (1, .ref x1), (2, .ref x2), (3, .ref x3), (4, .int x4)]) G dL_law_639 (by decide) ⟨fun _ => rfl, fun _ => rfl, fun _ => rfl, fun _ => rfl, fun _ => rfl, trivial⟩ rfl ?_
  refine r_aload_n G 3 dL_law_641 rfl rfl ?_
  refine r_aload_n G 1 dL_law_642 rfl rfl ?_
  refine r_iload G 5 dL_law_643 rfl ?_
  refine r_iconst (v := 1) G dL_law_645 (by decide) ?_
  refine r_iadd G dL_law_646 ?_
  obtain ⟨h103, hyp⟩ := x_chk hyp
  refine r_sld G hX h103 dL_law_647 ?_
  obtain ⟨o106, hyp⟩ := x_chk hyp
  refine r_callLV (ι := xI) (T := TX7) (N := 22) (ci := 7) (b := x2) (rest := []) (As := [.int (xs ((x4 + 1)).toNatClampNeg)]) G tg_X7_show (fun r w' h => ct_X7_show (xhl G) _ _ _ r w' h) o106 hyp rfl ww_1021 ww_1023 ww_1022 (by decide) (by decide) (by first | exact ⟨Nat.le_of_ble_eq_true rfl, Nat.le_of_ble_eq_true rfl⟩ | (constructor <;> (show _ ≤ _; simp only [room_1]; omega))) rfl rfl (xroom (Nat.le_of_ble_eq_true rfl)) dL_law_648 (push := (fun r105 => [.int r105])) (fun _ => rfl) (fun r105 w104 hyp => ?_)
  refine r_istore (lv' := [(6, .int r105), (5, .int r102), (0, .ref b), (1, .ref x1), (2, .ref x2), (3, .ref x3), (4, .int x4)]) G dL_law_651 (by decide) ⟨fun _ => rfl, fun _ => rfl, fun _ => rfl, fun _ => rfl, fun _ => rfl, fun _ => rfl, trivial⟩ rfl ?_
  refine r_aload_n G 4 dL_law_653 rfl rfl ?_
  obtain ⟨o109, hyp⟩ := x_chk hyp
  refine r_callLV (ι := xI) (T := TX7) (N := 22) (ci := 7) (b := x2) (rest := []) (As := []) G tg_X7_thrown (fun r w' h => ct_X7_thrown (xhl G) _ _ r w' h) o109 hyp rfl ww_996 ww_998 ww_997 (by decide) (by decide) (by first | exact ⟨Nat.le_of_ble_eq_true rfl, Nat.le_of_ble_eq_true rfl⟩ | (constructor <;> (show _ ≤ _; simp only [room_1]; omega))) rfl rfl (xroom (Nat.le_of_ble_eq_true rfl)) dL_law_654 (push := (fun r108 => [.int r108])) (fun _ => rfl) (fun r108 w107 hyp => ?_)
  refine r_iload G 1 dL_law_657 rfl ?_
  refine r_icmp_eq G 664 dL_law_659 (by decide) hyp (fun c110 hyp => ?_) (fun c110 hyp => ?_)
  · refine r_iload G 1 dL_law_664 rfl ?_
    refine r_if_ne G 681 dL_law_666 (by decide) hyp (fun c111 hyp => ?_) (fun c111 hyp => ?_)
    · refine r_goto G 2578 dL_law_681 (by decide) ?_
      refine r_iinc (v := (x4 + 7)) (lv' := [(4, .int (x4 + 7)), (6, .int r105), (5, .int r102), (0, .ref b), (1, .ref x1), (2, .ref x2), (3, .ref x3)]) G 6 dL_law_2578 rfl rfl (by decide) ⟨fun _ => rfl, fun _ => rfl, fun _ => rfl, fun _ => rfl, fun _ => rfl, fun _ => rfl, fun _ => rfl, trivial⟩ rfl ?_
      refine r_goto G 23 dL_law_2581 (by decide) ?_
      refine r_weak (lv' := [(0, .ref b), (1, .ref x1), (2, .ref x2), (3, .ref x3), (4, .int (x4 + 7))]) [3, 4, 5, 6, 0] rfl ?_
      exact hk23 x1 x2 x3 (x4 + 7) w107 _ _ (by omega) (by omega) hyp
    · refine r_aload_n G 5 dL_law_669 rfl rfl ?_
      refine r_iconst (v := 0) G dL_law_670 (by decide) ?_
      obtain ⟨v112, hv112, hyp⟩ := x_some hyp
      refine r_lald G hv112 dL_law_671 ?_
      refine r_iload G 0 dL_law_672 rfl ?_
      refine r_i2l G dL_law_674 ?_
      refine r_lcmp G dL_law_675 ?_
      refine r_if_eq G 681 dL_law_676 (by decide) hyp (fun c113 hyp => ?_) (fun c113 hyp => ?_)
      · refine r_goto G 2578 dL_law_681 (by decide) ?_
        refine r_iinc (v := (x4 + 7)) (lv' := [(4, .int (x4 + 7)), (6, .int r105), (5, .int r102), (0, .ref b), (1, .ref x1), (2, .ref x2), (3, .ref x3)]) G 6 dL_law_2578 rfl rfl (by decide) ⟨fun _ => rfl, fun _ => rfl, fun _ => rfl, fun _ => rfl, fun _ => rfl, fun _ => rfl, fun _ => rfl, trivial⟩ rfl ?_
        refine r_goto G 23 dL_law_2581 (by decide) ?_
        refine r_weak (lv' := [(0, .ref b), (1, .ref x1), (2, .ref x2), (3, .ref x3), (4, .int (x4 + 7))]) [3, 4, 5, 6, 0] rfl ?_
        exact hk23 x1 x2 x3 (x4 + 7) w107 _ _ (by omega) (by omega) hyp
      · refine r_iconst (v := 0) G dL_law_679 (by decide) ?_
        exact r_lwF hyp
  · refine r_iconst (v := 0) G dL_law_662 (by decide) ?_
    exact r_lwF hyp
end
section
variable {Γ : xG} {p : Program} {l : Launch} {e : Env} {s : State} {m : MethodId} {below : List Frame} {meth : Method} {c : Code} {wF : xW} {b L : Nat} {xs : Nat → Int32}
set_option maxRecDepth 100000 in
set_option maxHeartbeats 4000000 in
theorem nd_L_law_J684 {k23 : Nat → Nat → Nat → Int32 → xW → xO Int32} (G : xCx Γ p l s m #[Value.ref b] meth c RL cL_law 9 (some .boolean)) (hN : xNc s) (hX : xSc Γ b L xs s) (n : Nat) (hk23 : ∀ (x1 : Nat) (x2 : Nat) (x3 : Nat) (x4 : Int32) (w : xW) (cells slots : Nat), cells + n * 1 ≤ 601024 → slots + n * 6 ≤ 7293034 → k23 x1 x2 x3 x4 w = some (Sum.inl (1 : Int32), wF) → xAW Γ p l e room_1 s m #[Value.ref b] below meth c 9 (lw_Z below #[Value.ref b] s) w cells slots 23 [(0, .ref b), (1, .ref x1), (2, .ref x2), (3, .ref x3), (4, .int x4)] []) (x1 : Nat) (x2 : Nat) (x3 : Nat) (x4 : Int32) (w0 : xW) (cells slots : Nat) (hcl : cells + (n + 1) * 1 ≤ 601024) (hsl : slots + (n + 1) * 6 ≤ 7293034) (hyp : f_L_law_J684 xs L k23 x1 x2 x3 x4 w0 = some (Sum.inl (1 : Int32), wF)) : xAW Γ p l e room_1 s m #[Value.ref b] below meth c 9 (lw_Z below #[Value.ref b] s) w0 cells slots 684 [(0, .ref b), (1, .ref x1), (2, .ref x2), (3, .ref x3), (4, .int x4)] [] := by
  rw [f_L_law_J684] at hyp
  refine r_aload_n G 1 dL_law_684 rfl rfl ?_
  refine r_aload_n G 0 dL_law_685 rfl rfl ?_
  refine r_iload G 4 dL_law_686 rfl ?_
  refine r_iconst (v := 1) G dL_law_688 (by decide) ?_
  refine r_iadd G dL_law_689 ?_
  obtain ⟨h115, hyp⟩ := x_chk hyp
  refine r_sld G hX h115 dL_law_690 ?_
  refine r_aload_n G 0 dL_law_691 rfl rfl ?_
  refine r_iload G 4 dL_law_692 rfl ?_
  refine r_iconst (v := 2) G dL_law_694 (by decide) ?_
  refine r_iadd G dL_law_695 ?_
  obtain ⟨h116, hyp⟩ := x_chk hyp
  refine r_sld G hX h116 dL_law_696 ?_
  refine r_aload_n G 3 dL_law_697 rfl rfl ?_
  refine r_callLS (ι := xI) (rest := []) (As := [va_rf (some x1), .int (xs ((x4 + 1)).toNatClampNeg), .int (xs ((x4 + 2)).toNatClampNeg), va_rf (some x3)]) G hN tgh_L_moveLayer (fun r w' h => ct_L_moveLayer (xhl G) _ _ _ _ _ r w' h) hyp ww_1024 ww_1025 (by decide) (by decide) (by first | exact ⟨Nat.le_of_ble_eq_true rfl, Nat.le_of_ble_eq_true rfl⟩ | (constructor <;> (show _ ≤ _; simp only [room_1]; omega))) rfl rfl (xroom (Nat.le_of_ble_eq_true rfl)) dL_law_698 (push := (fun r118 => [.int r118])) (fun _ => rfl) (fun r118 w117 hyp => ?_)
  refine r_istore (lv' := [(5, .int r118), (0, .ref b), (1, .ref x1), (2, .ref x2), (3, .ref x3), (4, .int x4)]) G dL_law_701 (by decide) ⟨fun _ => rfl, fun _ => rfl, fun _ => rfl, fun _ => rfl, fun _ => rfl, trivial⟩ rfl ?_
  refine r_aload_n G 3 dL_law_703 rfl rfl ?_
  refine r_aload_n G 1 dL_law_704 rfl rfl ?_
  refine r_iload G 5 dL_law_705 rfl ?_
  refine r_iconst (v := 1) G dL_law_707 (by decide) ?_
  refine r_iadd G dL_law_708 ?_
  obtain ⟨h119, hyp⟩ := x_chk hyp
  refine r_sld G hX h119 dL_law_709 ?_
  refine r_aload_n G 1 dL_law_710 rfl rfl ?_
  refine r_iload G 5 dL_law_711 rfl ?_
  refine r_iconst (v := 2) G dL_law_713 (by decide) ?_
  refine r_iadd G dL_law_714 ?_
  obtain ⟨h120, hyp⟩ := x_chk hyp
  refine r_sld G hX h120 dL_law_715 ?_
  obtain ⟨o123, hyp⟩ := x_chk hyp
  refine r_callLV (ι := xI) (T := TX7) (N := 22) (ci := 7) (b := x2) (rest := []) (As := [.int (xs ((x4 + 1)).toNatClampNeg), .int (xs ((x4 + 2)).toNatClampNeg)]) G tg_X7_moveLayer (fun r w' h => ct_X7_moveLayer (xhl G) _ _ _ _ r w' h) o123 hyp rfl ww_1026 ww_1028 ww_1027 (by decide) (by decide) (by first | exact ⟨Nat.le_of_ble_eq_true rfl, Nat.le_of_ble_eq_true rfl⟩ | (constructor <;> (show _ ≤ _; simp only [room_1]; omega))) rfl rfl (xroom (Nat.le_of_ble_eq_true rfl)) dL_law_716 (push := (fun r122 => [.int r122])) (fun _ => rfl) (fun r122 w121 hyp => ?_)
  refine r_istore (lv' := [(6, .int r122), (5, .int r118), (0, .ref b), (1, .ref x1), (2, .ref x2), (3, .ref x3), (4, .int x4)]) G dL_law_719 (by decide) ⟨fun _ => rfl, fun _ => rfl, fun _ => rfl, fun _ => rfl, fun _ => rfl, fun _ => rfl, trivial⟩ rfl ?_
  refine r_aload_n G 4 dL_law_721 rfl rfl ?_
  obtain ⟨o126, hyp⟩ := x_chk hyp
  refine r_callLV (ι := xI) (T := TX7) (N := 22) (ci := 7) (b := x2) (rest := []) (As := []) G tg_X7_thrown (fun r w' h => ct_X7_thrown (xhl G) _ _ r w' h) o126 hyp rfl ww_996 ww_998 ww_997 (by decide) (by decide) (by first | exact ⟨Nat.le_of_ble_eq_true rfl, Nat.le_of_ble_eq_true rfl⟩ | (constructor <;> (show _ ≤ _; simp only [room_1]; omega))) rfl rfl (xroom (Nat.le_of_ble_eq_true rfl)) dL_law_722 (push := (fun r125 => [.int r125])) (fun _ => rfl) (fun r125 w124 hyp => ?_)
  refine r_iload G 1 dL_law_725 rfl ?_
  refine r_icmp_eq G 732 dL_law_727 (by decide) hyp (fun c127 hyp => ?_) (fun c127 hyp => ?_)
  · refine r_iload G 1 dL_law_732 rfl ?_
    refine r_if_ne G 749 dL_law_734 (by decide) hyp (fun c128 hyp => ?_) (fun c128 hyp => ?_)
    · refine r_goto G 2578 dL_law_749 (by decide) ?_
      refine r_iinc (v := (x4 + 7)) (lv' := [(4, .int (x4 + 7)), (6, .int r122), (5, .int r118), (0, .ref b), (1, .ref x1), (2, .ref x2), (3, .ref x3)]) G 6 dL_law_2578 rfl rfl (by decide) ⟨fun _ => rfl, fun _ => rfl, fun _ => rfl, fun _ => rfl, fun _ => rfl, fun _ => rfl, fun _ => rfl, trivial⟩ rfl ?_
      refine r_goto G 23 dL_law_2581 (by decide) ?_
      refine r_weak (lv' := [(0, .ref b), (1, .ref x1), (2, .ref x2), (3, .ref x3), (4, .int (x4 + 7))]) [3, 4, 5, 6, 0] rfl ?_
      exact hk23 x1 x2 x3 (x4 + 7) w124 _ _ (by omega) (by omega) hyp
    · refine r_aload_n G 5 dL_law_737 rfl rfl ?_
      refine r_iconst (v := 0) G dL_law_738 (by decide) ?_
      obtain ⟨v129, hv129, hyp⟩ := x_some hyp
      refine r_lald G hv129 dL_law_739 ?_
      refine r_iload G 0 dL_law_740 rfl ?_
      refine r_i2l G dL_law_742 ?_
      refine r_lcmp G dL_law_743 ?_
      refine r_if_eq G 749 dL_law_744 (by decide) hyp (fun c130 hyp => ?_) (fun c130 hyp => ?_)
      · refine r_goto G 2578 dL_law_749 (by decide) ?_
        refine r_iinc (v := (x4 + 7)) (lv' := [(4, .int (x4 + 7)), (6, .int r122), (5, .int r118), (0, .ref b), (1, .ref x1), (2, .ref x2), (3, .ref x3)]) G 6 dL_law_2578 rfl rfl (by decide) ⟨fun _ => rfl, fun _ => rfl, fun _ => rfl, fun _ => rfl, fun _ => rfl, fun _ => rfl, fun _ => rfl, trivial⟩ rfl ?_
        refine r_goto G 23 dL_law_2581 (by decide) ?_
        refine r_weak (lv' := [(0, .ref b), (1, .ref x1), (2, .ref x2), (3, .ref x3), (4, .int (x4 + 7))]) [3, 4, 5, 6, 0] rfl ?_
        exact hk23 x1 x2 x3 (x4 + 7) w124 _ _ (by omega) (by omega) hyp
      · refine r_iconst (v := 0) G dL_law_747 (by decide) ?_
        exact r_lwF hyp
  · refine r_iconst (v := 0) G dL_law_730 (by decide) ?_
    exact r_lwF hyp
end
section
variable {Γ : xG} {p : Program} {l : Launch} {e : Env} {s : State} {m : MethodId} {below : List Frame} {meth : Method} {c : Code} {wF : xW} {b L : Nat} {xs : Nat → Int32}
set_option maxRecDepth 100000 in
set_option maxHeartbeats 4000000 in
theorem nd_L_law_J752 {k23 : Nat → Nat → Nat → Int32 → xW → xO Int32} (G : xCx Γ p l s m #[Value.ref b] meth c RL cL_law 9 (some .boolean)) (hN : xNc s) (hX : xSc Γ b L xs s) (n : Nat) (hk23 : ∀ (x1 : Nat) (x2 : Nat) (x3 : Nat) (x4 : Int32) (w : xW) (cells slots : Nat), cells + n * 1 ≤ 601024 → slots + n * 6 ≤ 7293034 → k23 x1 x2 x3 x4 w = some (Sum.inl (1 : Int32), wF) → xAW Γ p l e room_1 s m #[Value.ref b] below meth c 9 (lw_Z below #[Value.ref b] s) w cells slots 23 [(0, .ref b), (1, .ref x1), (2, .ref x2), (3, .ref x3), (4, .int x4)] []) (x1 : Nat) (x2 : Nat) (x3 : Nat) (x4 : Int32) (w0 : xW) (cells slots : Nat) (hcl : cells + (n + 1) * 1 ≤ 601024) (hsl : slots + (n + 1) * 6 ≤ 7293034) (hyp : f_L_law_J752 xs L k23 x1 x2 x3 x4 w0 = some (Sum.inl (1 : Int32), wF)) : xAW Γ p l e room_1 s m #[Value.ref b] below meth c 9 (lw_Z below #[Value.ref b] s) w0 cells slots 752 [(0, .ref b), (1, .ref x1), (2, .ref x2), (3, .ref x3), (4, .int x4)] [] := by
  rw [f_L_law_J752] at hyp
  refine r_aload_n G 1 dL_law_752 rfl rfl ?_
  refine r_aload_n G 0 dL_law_753 rfl rfl ?_
  refine r_iload G 4 dL_law_754 rfl ?_
  refine r_iconst (v := 1) G dL_law_756 (by decide) ?_
  refine r_iadd G dL_law_757 ?_
  obtain ⟨h132, hyp⟩ := x_chk hyp
  refine r_sld G hX h132 dL_law_758 ?_
  refine r_aload_n G 3 dL_law_759 rfl rfl ?_
  refine r_callLS (ι := xI) (rest := []) (As := [va_rf (some x1), .int (xs ((x4 + 1)).toNatClampNeg), va_rf (some x3)]) G hN tgh_L_mergeDown (fun r w' h => ct_L_mergeDown (xhl G) _ _ _ _ r w' h) hyp ww_1029 ww_1030 (by decide) (by decide) (by first | exact ⟨Nat.le_of_ble_eq_true rfl, Nat.le_of_ble_eq_true rfl⟩ | (constructor <;> (show _ ≤ _; simp only [room_1]; omega))) rfl rfl (xroom (Nat.le_of_ble_eq_true rfl)) dL_law_760 (push := (fun r134 => [.int r134])) (fun _ => rfl) (fun r134 w133 hyp => ?_)
  refine r_istore (lv' := [(5, .int r134), (0, .ref b), (1, .ref x1), (2, .ref x2), (3, .ref x3), (4, .int x4)]) G dL_law_763 (by decide) ⟨fun _ => rfl, fun _ => rfl, fun _ => rfl, fun _ => rfl, fun _ => rfl, trivial⟩ rfl ?_
  refine r_aload_n G 3 dL_law_765 rfl rfl ?_
  refine r_aload_n G 1 dL_law_766 rfl rfl ?_
  refine r_iload G 5 dL_law_767 rfl ?_
  refine r_iconst (v := 1) G dL_law_769 (by decide) ?_
  refine r_iadd G dL_law_770 ?_
  obtain ⟨h135, hyp⟩ := x_chk hyp
  refine r_sld G hX h135 dL_law_771 ?_
  obtain ⟨o138, hyp⟩ := x_chk hyp
  refine r_callLV (ι := xI) (T := TX7) (N := 22) (ci := 7) (b := x2) (rest := []) (As := [.int (xs ((x4 + 1)).toNatClampNeg)]) G tg_X7_mergeDown (fun r w' h => ct_X7_mergeDown (xhl G) _ _ _ r w' h) o138 hyp rfl ww_1031 ww_1033 ww_1032 (by decide) (by decide) (by first | exact ⟨Nat.le_of_ble_eq_true rfl, Nat.le_of_ble_eq_true rfl⟩ | (constructor <;> (show _ ≤ _; simp only [room_1]; omega))) rfl rfl (xroom (Nat.le_of_ble_eq_true rfl)) dL_law_772 (push := (fun r137 => [.int r137])) (fun _ => rfl) (fun r137 w136 hyp => ?_)
  refine r_istore (lv' := [(6, .int r137), (5, .int r134), (0, .ref b), (1, .ref x1), (2, .ref x2), (3, .ref x3), (4, .int x4)]) G dL_law_775 (by decide) ⟨fun _ => rfl, fun _ => rfl, fun _ => rfl, fun _ => rfl, fun _ => rfl, fun _ => rfl, trivial⟩ rfl ?_
  refine r_aload_n G 4 dL_law_777 rfl rfl ?_
  obtain ⟨o141, hyp⟩ := x_chk hyp
  refine r_callLV (ι := xI) (T := TX7) (N := 22) (ci := 7) (b := x2) (rest := []) (As := []) G tg_X7_thrown (fun r w' h => ct_X7_thrown (xhl G) _ _ r w' h) o141 hyp rfl ww_996 ww_998 ww_997 (by decide) (by decide) (by first | exact ⟨Nat.le_of_ble_eq_true rfl, Nat.le_of_ble_eq_true rfl⟩ | (constructor <;> (show _ ≤ _; simp only [room_1]; omega))) rfl rfl (xroom (Nat.le_of_ble_eq_true rfl)) dL_law_778 (push := (fun r140 => [.int r140])) (fun _ => rfl) (fun r140 w139 hyp => ?_)
  refine r_iload G 1 dL_law_781 rfl ?_
  refine r_icmp_eq G 788 dL_law_783 (by decide) hyp (fun c142 hyp => ?_) (fun c142 hyp => ?_)
  · refine r_iload G 1 dL_law_788 rfl ?_
    refine r_if_ne G 805 dL_law_790 (by decide) hyp (fun c143 hyp => ?_) (fun c143 hyp => ?_)
    · refine r_goto G 2578 dL_law_805 (by decide) ?_
      refine r_iinc (v := (x4 + 7)) (lv' := [(4, .int (x4 + 7)), (6, .int r137), (5, .int r134), (0, .ref b), (1, .ref x1), (2, .ref x2), (3, .ref x3)]) G 6 dL_law_2578 rfl rfl (by decide) ⟨fun _ => rfl, fun _ => rfl, fun _ => rfl, fun _ => rfl, fun _ => rfl, fun _ => rfl, fun _ => rfl, trivial⟩ rfl ?_
      refine r_goto G 23 dL_law_2581 (by decide) ?_
      refine r_weak (lv' := [(0, .ref b), (1, .ref x1), (2, .ref x2), (3, .ref x3), (4, .int (x4 + 7))]) [3, 4, 5, 6, 0] rfl ?_
      exact hk23 x1 x2 x3 (x4 + 7) w139 _ _ (by omega) (by omega) hyp
    · refine r_aload_n G 5 dL_law_793 rfl rfl ?_
      refine r_iconst (v := 0) G dL_law_794 (by decide) ?_
      obtain ⟨v144, hv144, hyp⟩ := x_some hyp
      refine r_lald G hv144 dL_law_795 ?_
      refine r_iload G 0 dL_law_796 rfl ?_
      refine r_i2l G dL_law_798 ?_
      refine r_lcmp G dL_law_799 ?_
      refine r_if_eq G 805 dL_law_800 (by decide) hyp (fun c145 hyp => ?_) (fun c145 hyp => ?_)
      · refine r_goto G 2578 dL_law_805 (by decide) ?_
        refine r_iinc (v := (x4 + 7)) (lv' := [(4, .int (x4 + 7)), (6, .int r137), (5, .int r134), (0, .ref b), (1, .ref x1), (2, .ref x2), (3, .ref x3)]) G 6 dL_law_2578 rfl rfl (by decide) ⟨fun _ => rfl, fun _ => rfl, fun _ => rfl, fun _ => rfl, fun _ => rfl, fun _ => rfl, fun _ => rfl, trivial⟩ rfl ?_
        refine r_goto G 23 dL_law_2581 (by decide) ?_
        refine r_weak (lv' := [(0, .ref b), (1, .ref x1), (2, .ref x2), (3, .ref x3), (4, .int (x4 + 7))]) [3, 4, 5, 6, 0] rfl ?_
        exact hk23 x1 x2 x3 (x4 + 7) w139 _ _ (by omega) (by omega) hyp
      · refine r_iconst (v := 0) G dL_law_803 (by decide) ?_
        exact r_lwF hyp
  · refine r_iconst (v := 0) G dL_law_786 (by decide) ?_
    exact r_lwF hyp
end
section
variable {Γ : xG} {p : Program} {l : Launch} {e : Env} {s : State} {m : MethodId} {below : List Frame} {meth : Method} {c : Code} {wF : xW} {b L : Nat} {xs : Nat → Int32}
set_option maxRecDepth 100000 in
set_option maxHeartbeats 4000000 in
theorem nd_L_law_J808 {k23 : Nat → Nat → Nat → Int32 → xW → xO Int32} (G : xCx Γ p l s m #[Value.ref b] meth c RL cL_law 9 (some .boolean)) (hN : xNc s) (hX : xSc Γ b L xs s) (n : Nat) (hk23 : ∀ (x1 : Nat) (x2 : Nat) (x3 : Nat) (x4 : Int32) (w : xW) (cells slots : Nat), cells + n * 1 ≤ 601024 → slots + n * 6 ≤ 7293034 → k23 x1 x2 x3 x4 w = some (Sum.inl (1 : Int32), wF) → xAW Γ p l e room_1 s m #[Value.ref b] below meth c 9 (lw_Z below #[Value.ref b] s) w cells slots 23 [(0, .ref b), (1, .ref x1), (2, .ref x2), (3, .ref x3), (4, .int x4)] []) (x1 : Nat) (x2 : Nat) (x3 : Nat) (x4 : Int32) (w0 : xW) (cells slots : Nat) (hcl : cells + (n + 1) * 1 ≤ 601024) (hsl : slots + (n + 1) * 6 ≤ 7293034) (hyp : f_L_law_J808 xs L k23 x1 x2 x3 x4 w0 = some (Sum.inl (1 : Int32), wF)) : xAW Γ p l e room_1 s m #[Value.ref b] below meth c 9 (lw_Z below #[Value.ref b] s) w0 cells slots 808 [(0, .ref b), (1, .ref x1), (2, .ref x2), (3, .ref x3), (4, .int x4)] [] := by
  rw [f_L_law_J808] at hyp
  refine r_aload_n G 1 dL_law_808 rfl rfl ?_
  refine r_aload_n G 0 dL_law_809 rfl rfl ?_
  refine r_iload G 4 dL_law_810 rfl ?_
  refine r_iconst (v := 1) G dL_law_812 (by decide) ?_
  refine r_iadd G dL_law_813 ?_
  obtain ⟨h147, hyp⟩ := x_chk hyp
  refine r_sld G hX h147 dL_law_814 ?_
  refine r_aload_n G 0 dL_law_815 rfl rfl ?_
  refine r_iload G 4 dL_law_816 rfl ?_
  refine r_iconst (v := 2) G dL_law_818 (by decide) ?_
  refine r_iadd G dL_law_819 ?_
  obtain ⟨h148, hyp⟩ := x_chk hyp
  refine r_sld G hX h148 dL_law_820 ?_
  refine r_aload_n G 3 dL_law_821 rfl rfl ?_
  refine r_callLS (ι := xI) (rest := []) (As := [va_rf (some x1), .int (xs ((x4 + 1)).toNatClampNeg), .int (xs ((x4 + 2)).toNatClampNeg), va_rf (some x3)]) G hN tgh_L_castShadow (fun r w' h => ct_L_castShadow (xhl G) _ _ _ _ _ r w' h) hyp ww_1034 ww_1035 (by decide) (by decide) (by first | exact ⟨Nat.le_of_ble_eq_true rfl, Nat.le_of_ble_eq_true rfl⟩ | (constructor <;> (show _ ≤ _; simp only [room_1]; omega))) rfl rfl (xroom (Nat.le_of_ble_eq_true rfl)) dL_law_822 (push := (fun r150 => [.int r150])) (fun _ => rfl) (fun r150 w149 hyp => ?_)
  refine r_istore (lv' := [(5, .int r150), (0, .ref b), (1, .ref x1), (2, .ref x2), (3, .ref x3), (4, .int x4)]) G dL_law_825 (by decide) ⟨fun _ => rfl, fun _ => rfl, fun _ => rfl, fun _ => rfl, fun _ => rfl, trivial⟩ rfl ?_
  refine r_aload_n G 3 dL_law_827 rfl rfl ?_
  refine r_aload_n G 1 dL_law_828 rfl rfl ?_
  refine r_iload G 5 dL_law_829 rfl ?_
  refine r_iconst (v := 1) G dL_law_831 (by decide) ?_
  refine r_iadd G dL_law_832 ?_
  obtain ⟨h151, hyp⟩ := x_chk hyp
  refine r_sld G hX h151 dL_law_833 ?_
  refine r_aload_n G 1 dL_law_834 rfl rfl ?_
  refine r_iload G 5 dL_law_835 rfl ?_
  refine r_iconst (v := 2) G dL_law_837 (by decide) ?_
  refine r_iadd G dL_law_838 ?_
  obtain ⟨h152, hyp⟩ := x_chk hyp
  refine r_sld G hX h152 dL_law_839 ?_
  obtain ⟨o155, hyp⟩ := x_chk hyp
  refine r_callLV (ι := xI) (T := TX7) (N := 22) (ci := 7) (b := x2) (rest := []) (As := [.int (xs ((x4 + 1)).toNatClampNeg), .int (xs ((x4 + 2)).toNatClampNeg)]) G tg_X7_castShadow (fun r w' h => ct_X7_castShadow (xhl G) _ _ _ _ r w' h) o155 hyp rfl ww_1036 ww_1038 ww_1037 (by decide) (by decide) (by first | exact ⟨Nat.le_of_ble_eq_true rfl, Nat.le_of_ble_eq_true rfl⟩ | (constructor <;> (show _ ≤ _; simp only [room_1]; omega))) rfl rfl (xroom (Nat.le_of_ble_eq_true rfl)) dL_law_840 (push := (fun r154 => [.int r154])) (fun _ => rfl) (fun r154 w153 hyp => ?_)
  refine r_istore (lv' := [(6, .int r154), (5, .int r150), (0, .ref b), (1, .ref x1), (2, .ref x2), (3, .ref x3), (4, .int x4)]) G dL_law_843 (by decide) ⟨fun _ => rfl, fun _ => rfl, fun _ => rfl, fun _ => rfl, fun _ => rfl, fun _ => rfl, trivial⟩ rfl ?_
  refine r_aload_n G 4 dL_law_845 rfl rfl ?_
  obtain ⟨o158, hyp⟩ := x_chk hyp
  refine r_callLV (ι := xI) (T := TX7) (N := 22) (ci := 7) (b := x2) (rest := []) (As := []) G tg_X7_thrown (fun r w' h => ct_X7_thrown (xhl G) _ _ r w' h) o158 hyp rfl ww_996 ww_998 ww_997 (by decide) (by decide) (by first | exact ⟨Nat.le_of_ble_eq_true rfl, Nat.le_of_ble_eq_true rfl⟩ | (constructor <;> (show _ ≤ _; simp only [room_1]; omega))) rfl rfl (xroom (Nat.le_of_ble_eq_true rfl)) dL_law_846 (push := (fun r157 => [.int r157])) (fun _ => rfl) (fun r157 w156 hyp => ?_)
  refine r_iload G 1 dL_law_849 rfl ?_
  refine r_icmp_eq G 856 dL_law_851 (by decide) hyp (fun c159 hyp => ?_) (fun c159 hyp => ?_)
  · refine r_iload G 1 dL_law_856 rfl ?_
    refine r_if_ne G 873 dL_law_858 (by decide) hyp (fun c160 hyp => ?_) (fun c160 hyp => ?_)
    · refine r_goto G 2578 dL_law_873 (by decide) ?_
      refine r_iinc (v := (x4 + 7)) (lv' := [(4, .int (x4 + 7)), (6, .int r154), (5, .int r150), (0, .ref b), (1, .ref x1), (2, .ref x2), (3, .ref x3)]) G 6 dL_law_2578 rfl rfl (by decide) ⟨fun _ => rfl, fun _ => rfl, fun _ => rfl, fun _ => rfl, fun _ => rfl, fun _ => rfl, fun _ => rfl, trivial⟩ rfl ?_
      refine r_goto G 23 dL_law_2581 (by decide) ?_
      refine r_weak (lv' := [(0, .ref b), (1, .ref x1), (2, .ref x2), (3, .ref x3), (4, .int (x4 + 7))]) [3, 4, 5, 6, 0] rfl ?_
      exact hk23 x1 x2 x3 (x4 + 7) w156 _ _ (by omega) (by omega) hyp
    · refine r_aload_n G 5 dL_law_861 rfl rfl ?_
      refine r_iconst (v := 0) G dL_law_862 (by decide) ?_
      obtain ⟨v161, hv161, hyp⟩ := x_some hyp
      refine r_lald G hv161 dL_law_863 ?_
      refine r_iload G 0 dL_law_864 rfl ?_
      refine r_i2l G dL_law_866 ?_
      refine r_lcmp G dL_law_867 ?_
      refine r_if_eq G 873 dL_law_868 (by decide) hyp (fun c162 hyp => ?_) (fun c162 hyp => ?_)
      · refine r_goto G 2578 dL_law_873 (by decide) ?_
        refine r_iinc (v := (x4 + 7)) (lv' := [(4, .int (x4 + 7)), (6, .int r154), (5, .int r150), (0, .ref b), (1, .ref x1), (2, .ref x2), (3, .ref x3)]) G 6 dL_law_2578 rfl rfl (by decide) ⟨fun _ => rfl, fun _ => rfl, fun _ => rfl, fun _ => rfl, fun _ => rfl, fun _ => rfl, fun _ => rfl, trivial⟩ rfl ?_
        refine r_goto G 23 dL_law_2581 (by decide) ?_
        refine r_weak (lv' := [(0, .ref b), (1, .ref x1), (2, .ref x2), (3, .ref x3), (4, .int (x4 + 7))]) [3, 4, 5, 6, 0] rfl ?_
        exact hk23 x1 x2 x3 (x4 + 7) w156 _ _ (by omega) (by omega) hyp
      · refine r_iconst (v := 0) G dL_law_871 (by decide) ?_
        exact r_lwF hyp
  · refine r_iconst (v := 0) G dL_law_854 (by decide) ?_
    exact r_lwF hyp
end
section
variable {Γ : xG} {p : Program} {l : Launch} {e : Env} {s : State} {m : MethodId} {below : List Frame} {meth : Method} {c : Code} {wF : xW} {b L : Nat} {xs : Nat → Int32}
set_option maxRecDepth 100000 in
set_option maxHeartbeats 4000000 in
theorem nd_L_law_J876 {k23 : Nat → Nat → Nat → Int32 → xW → xO Int32} (G : xCx Γ p l s m #[Value.ref b] meth c RL cL_law 9 (some .boolean)) (hN : xNc s) (hX : xSc Γ b L xs s) (n : Nat) (hk23 : ∀ (x1 : Nat) (x2 : Nat) (x3 : Nat) (x4 : Int32) (w : xW) (cells slots : Nat), cells + n * 1 ≤ 601024 → slots + n * 6 ≤ 7293034 → k23 x1 x2 x3 x4 w = some (Sum.inl (1 : Int32), wF) → xAW Γ p l e room_1 s m #[Value.ref b] below meth c 9 (lw_Z below #[Value.ref b] s) w cells slots 23 [(0, .ref b), (1, .ref x1), (2, .ref x2), (3, .ref x3), (4, .int x4)] []) (x1 : Nat) (x2 : Nat) (x3 : Nat) (x4 : Int32) (w0 : xW) (cells slots : Nat) (hcl : cells + (n + 1) * 1 ≤ 601024) (hsl : slots + (n + 1) * 6 ≤ 7293034) (hyp : f_L_law_J876 xs L k23 x1 x2 x3 x4 w0 = some (Sum.inl (1 : Int32), wF)) : xAW Γ p l e room_1 s m #[Value.ref b] below meth c 9 (lw_Z below #[Value.ref b] s) w0 cells slots 876 [(0, .ref b), (1, .ref x1), (2, .ref x2), (3, .ref x3), (4, .int x4)] [] := by
  rw [f_L_law_J876] at hyp
  refine r_aload_n G 1 dL_law_876 rfl rfl ?_
  obtain ⟨o166, hyp⟩ := x_chk hyp
  refine r_callLV (ι := xI) (T := TX6) (N := 9) (ci := 6) (b := x1) (rest := []) (As := []) G tg_X6_layerCount (fun r w' h => ct_X6_layerCount (xhl G) _ _ r w' h) o166 hyp rfl ww_1039 ww_1041 ww_1040 (by decide) (by decide) (by first | exact ⟨Nat.le_of_ble_eq_true rfl, Nat.le_of_ble_eq_true rfl⟩ | (constructor <;> (show _ ≤ _; simp only [room_1]; omega))) rfl rfl (xroom (Nat.le_of_ble_eq_true rfl)) dL_law_877 (push := (fun r165 => [.int r165])) (fun _ => rfl) (fun r165 w164 hyp => ?_)
  refine r_aload_n G 2 dL_law_880 rfl rfl ?_
  obtain ⟨o169, hyp⟩ := x_chk hyp
  refine r_callLV (ι := xI) (T := TX7) (N := 22) (ci := 7) (b := x2) (rest := [.int r165]) (As := []) G tg_X7_layerCount (fun r w' h => ct_X7_layerCount (xhl G) _ _ r w' h) o169 hyp rfl ww_1042 ww_1044 ww_1043 (by decide) (by decide) (by first | exact ⟨Nat.le_of_ble_eq_true rfl, Nat.le_of_ble_eq_true rfl⟩ | (constructor <;> (show _ ≤ _; simp only [room_1]; omega))) rfl rfl (xroom (Nat.le_of_ble_eq_true rfl)) dL_law_881 (push := (fun r168 => [.int r168, .int r165])) (fun _ => rfl) (fun r168 w167 hyp => ?_)
  refine r_icmp_eq G 2578 dL_law_884 (by decide) hyp (fun c170 hyp => ?_) (fun c170 hyp => ?_)
  · refine r_iinc (v := (x4 + 7)) (lv' := [(4, .int (x4 + 7)), (0, .ref b), (1, .ref x1), (2, .ref x2), (3, .ref x3)]) G 4 dL_law_2578 rfl rfl (by decide) ⟨fun _ => rfl, fun _ => rfl, fun _ => rfl, fun _ => rfl, fun _ => rfl, trivial⟩ rfl ?_
    refine r_goto G 23 dL_law_2581 (by decide) ?_
    refine r_weak (lv' := [(0, .ref b), (1, .ref x1), (2, .ref x2), (3, .ref x3), (4, .int (x4 + 7))]) [1, 2, 3, 4, 0] rfl ?_
    exact hk23 x1 x2 x3 (x4 + 7) w167 _ _ (by omega) (by omega) hyp
  · refine r_iconst (v := 0) G dL_law_887 (by decide) ?_
    exact r_lwF hyp
end
section
variable {Γ : xG} {p : Program} {l : Launch} {e : Env} {s : State} {m : MethodId} {below : List Frame} {meth : Method} {c : Code} {wF : xW} {b L : Nat} {xs : Nat → Int32}
set_option maxRecDepth 100000 in
set_option maxHeartbeats 4000000 in
theorem nd_L_law_J889 {k23 : Nat → Nat → Nat → Int32 → xW → xO Int32} (G : xCx Γ p l s m #[Value.ref b] meth c RL cL_law 9 (some .boolean)) (hN : xNc s) (hX : xSc Γ b L xs s) (n : Nat) (hk23 : ∀ (x1 : Nat) (x2 : Nat) (x3 : Nat) (x4 : Int32) (w : xW) (cells slots : Nat), cells + n * 1 ≤ 601024 → slots + n * 6 ≤ 7293034 → k23 x1 x2 x3 x4 w = some (Sum.inl (1 : Int32), wF) → xAW Γ p l e room_1 s m #[Value.ref b] below meth c 9 (lw_Z below #[Value.ref b] s) w cells slots 23 [(0, .ref b), (1, .ref x1), (2, .ref x2), (3, .ref x3), (4, .int x4)] []) (x1 : Nat) (x2 : Nat) (x3 : Nat) (x4 : Int32) (w0 : xW) (cells slots : Nat) (hcl : cells + (n + 1) * 1 ≤ 601024) (hsl : slots + (n + 1) * 6 ≤ 7293034) (hyp : f_L_law_J889 xs L k23 x1 x2 x3 x4 w0 = some (Sum.inl (1 : Int32), wF)) : xAW Γ p l e room_1 s m #[Value.ref b] below meth c 9 (lw_Z below #[Value.ref b] s) w0 cells slots 889 [(0, .ref b), (1, .ref x1), (2, .ref x2), (3, .ref x3), (4, .int x4)] [] := by
  rw [f_L_law_J889] at hyp
  refine r_aload_n G 1 dL_law_889 rfl rfl ?_
  refine r_aload_n G 0 dL_law_890 rfl rfl ?_
  refine r_iload G 4 dL_law_891 rfl ?_
  refine r_iconst (v := 1) G dL_law_893 (by decide) ?_
  refine r_iadd G dL_law_894 ?_
  obtain ⟨h172, hyp⟩ := x_chk hyp
  refine r_sld G hX h172 dL_law_895 ?_
  refine r_aload_n G 3 dL_law_896 rfl rfl ?_
  refine r_callLS (ι := xI) (rest := []) (As := [va_rf (some x1), .int (xs ((x4 + 1)).toNatClampNeg), va_rf (some x3)]) G hN tgh_L_mode (fun r w' h => ct_L_mode (xhl G) _ _ _ _ r w' h) hyp ww_1045 ww_1046 (by decide) (by decide) (by first | exact ⟨Nat.le_of_ble_eq_true rfl, Nat.le_of_ble_eq_true rfl⟩ | (constructor <;> (show _ ≤ _; simp only [room_1]; omega))) rfl rfl (xroom (Nat.le_of_ble_eq_true rfl)) dL_law_897 (push := (fun r174 => [.int r174])) (fun _ => rfl) (fun r174 w173 hyp => ?_)
  refine r_istore (lv' := [(5, .int r174), (0, .ref b), (1, .ref x1), (2, .ref x2), (3, .ref x3), (4, .int x4)]) G dL_law_900 (by decide) ⟨fun _ => rfl, fun _ => rfl, fun _ => rfl, fun _ => rfl, fun _ => rfl, trivial⟩ rfl ?_
  refine r_aload_n G 3 dL_law_902 rfl rfl ?_
  refine r_aload_n G 1 dL_law_903 rfl rfl ?_
  refine r_iload G 5 dL_law_904 rfl ?_
  refine r_iconst (v := 1) G dL_law_906 (by decide) ?_
  refine r_iadd G dL_law_907 ?_
  obtain ⟨h175, hyp⟩ := x_chk hyp
  refine r_sld G hX h175 dL_law_908 ?_
  obtain ⟨o178, hyp⟩ := x_chk hyp
  refine r_callLV (ι := xI) (T := TX7) (N := 22) (ci := 7) (b := x2) (rest := []) (As := [.int (xs ((x4 + 1)).toNatClampNeg)]) G tg_X7_mode (fun r w' h => ct_X7_mode (xhl G) _ _ _ r w' h) o178 hyp rfl ww_1047 ww_1049 ww_1048 (by decide) (by decide) (by first | exact ⟨Nat.le_of_ble_eq_true rfl, Nat.le_of_ble_eq_true rfl⟩ | (constructor <;> (show _ ≤ _; simp only [room_1]; omega))) rfl rfl (xroom (Nat.le_of_ble_eq_true rfl)) dL_law_909 (push := (fun r177 => [.int r177])) (fun _ => rfl) (fun r177 w176 hyp => ?_)
  refine r_istore (lv' := [(6, .int r177), (5, .int r174), (0, .ref b), (1, .ref x1), (2, .ref x2), (3, .ref x3), (4, .int x4)]) G dL_law_912 (by decide) ⟨fun _ => rfl, fun _ => rfl, fun _ => rfl, fun _ => rfl, fun _ => rfl, fun _ => rfl, trivial⟩ rfl ?_
  refine r_aload_n G 4 dL_law_914 rfl rfl ?_
  obtain ⟨o181, hyp⟩ := x_chk hyp
  refine r_callLV (ι := xI) (T := TX7) (N := 22) (ci := 7) (b := x2) (rest := []) (As := []) G tg_X7_thrown (fun r w' h => ct_X7_thrown (xhl G) _ _ r w' h) o181 hyp rfl ww_996 ww_998 ww_997 (by decide) (by decide) (by first | exact ⟨Nat.le_of_ble_eq_true rfl, Nat.le_of_ble_eq_true rfl⟩ | (constructor <;> (show _ ≤ _; simp only [room_1]; omega))) rfl rfl (xroom (Nat.le_of_ble_eq_true rfl)) dL_law_915 (push := (fun r180 => [.int r180])) (fun _ => rfl) (fun r180 w179 hyp => ?_)
  refine r_iload G 1 dL_law_918 rfl ?_
  refine r_icmp_eq G 925 dL_law_920 (by decide) hyp (fun c182 hyp => ?_) (fun c182 hyp => ?_)
  · refine r_iload G 1 dL_law_925 rfl ?_
    refine r_if_ne G 942 dL_law_927 (by decide) hyp (fun c183 hyp => ?_) (fun c183 hyp => ?_)
    · refine r_goto G 2578 dL_law_942 (by decide) ?_
      refine r_iinc (v := (x4 + 7)) (lv' := [(4, .int (x4 + 7)), (6, .int r177), (5, .int r174), (0, .ref b), (1, .ref x1), (2, .ref x2), (3, .ref x3)]) G 6 dL_law_2578 rfl rfl (by decide) ⟨fun _ => rfl, fun _ => rfl, fun _ => rfl, fun _ => rfl, fun _ => rfl, fun _ => rfl, fun _ => rfl, trivial⟩ rfl ?_
      refine r_goto G 23 dL_law_2581 (by decide) ?_
      refine r_weak (lv' := [(0, .ref b), (1, .ref x1), (2, .ref x2), (3, .ref x3), (4, .int (x4 + 7))]) [3, 4, 5, 6, 0] rfl ?_
      exact hk23 x1 x2 x3 (x4 + 7) w179 _ _ (by omega) (by omega) hyp
    · refine r_aload_n G 5 dL_law_930 rfl rfl ?_
      refine r_iconst (v := 0) G dL_law_931 (by decide) ?_
      obtain ⟨v184, hv184, hyp⟩ := x_some hyp
      refine r_lald G hv184 dL_law_932 ?_
      refine r_iload G 0 dL_law_933 rfl ?_
      refine r_i2l G dL_law_935 ?_
      refine r_lcmp G dL_law_936 ?_
      refine r_if_eq G 942 dL_law_937 (by decide) hyp (fun c185 hyp => ?_) (fun c185 hyp => ?_)
      · refine r_goto G 2578 dL_law_942 (by decide) ?_
        refine r_iinc (v := (x4 + 7)) (lv' := [(4, .int (x4 + 7)), (6, .int r177), (5, .int r174), (0, .ref b), (1, .ref x1), (2, .ref x2), (3, .ref x3)]) G 6 dL_law_2578 rfl rfl (by decide) ⟨fun _ => rfl, fun _ => rfl, fun _ => rfl, fun _ => rfl, fun _ => rfl, fun _ => rfl, fun _ => rfl, trivial⟩ rfl ?_
        refine r_goto G 23 dL_law_2581 (by decide) ?_
        refine r_weak (lv' := [(0, .ref b), (1, .ref x1), (2, .ref x2), (3, .ref x3), (4, .int (x4 + 7))]) [3, 4, 5, 6, 0] rfl ?_
        exact hk23 x1 x2 x3 (x4 + 7) w179 _ _ (by omega) (by omega) hyp
      · refine r_iconst (v := 0) G dL_law_940 (by decide) ?_
        exact r_lwF hyp
  · refine r_iconst (v := 0) G dL_law_923 (by decide) ?_
    exact r_lwF hyp
end
section
variable {Γ : xG} {p : Program} {l : Launch} {e : Env} {s : State} {m : MethodId} {below : List Frame} {meth : Method} {c : Code} {wF : xW} {b L : Nat} {xs : Nat → Int32}
set_option maxRecDepth 100000 in
set_option maxHeartbeats 4000000 in
theorem nd_L_law_J945 {k23 : Nat → Nat → Nat → Int32 → xW → xO Int32} (G : xCx Γ p l s m #[Value.ref b] meth c RL cL_law 9 (some .boolean)) (hN : xNc s) (hX : xSc Γ b L xs s) (n : Nat) (hk23 : ∀ (x1 : Nat) (x2 : Nat) (x3 : Nat) (x4 : Int32) (w : xW) (cells slots : Nat), cells + n * 1 ≤ 601024 → slots + n * 6 ≤ 7293034 → k23 x1 x2 x3 x4 w = some (Sum.inl (1 : Int32), wF) → xAW Γ p l e room_1 s m #[Value.ref b] below meth c 9 (lw_Z below #[Value.ref b] s) w cells slots 23 [(0, .ref b), (1, .ref x1), (2, .ref x2), (3, .ref x3), (4, .int x4)] []) (x1 : Nat) (x2 : Nat) (x3 : Nat) (x4 : Int32) (w0 : xW) (cells slots : Nat) (hcl : cells + (n + 1) * 1 ≤ 601024) (hsl : slots + (n + 1) * 6 ≤ 7293034) (hyp : f_L_law_J945 xs L k23 x1 x2 x3 x4 w0 = some (Sum.inl (1 : Int32), wF)) : xAW Γ p l e room_1 s m #[Value.ref b] below meth c 9 (lw_Z below #[Value.ref b] s) w0 cells slots 945 [(0, .ref b), (1, .ref x1), (2, .ref x2), (3, .ref x3), (4, .int x4)] [] := by
  rw [f_L_law_J945] at hyp
  refine r_aload_n G 1 dL_law_945 rfl rfl ?_
  refine r_aload_n G 0 dL_law_946 rfl rfl ?_
  refine r_iload G 4 dL_law_947 rfl ?_
  refine r_iconst (v := 1) G dL_law_949 (by decide) ?_
  refine r_iadd G dL_law_950 ?_
  obtain ⟨h187, hyp⟩ := x_chk hyp
  refine r_sld G hX h187 dL_law_951 ?_
  refine r_aload_n G 3 dL_law_952 rfl rfl ?_
  refine r_callLS (ι := xI) (rest := []) (As := [va_rf (some x1), .int (xs ((x4 + 1)).toNatClampNeg), va_rf (some x3)]) G hN tgh_L_isVisible (fun r w' h => ct_L_isVisible (xhl G) _ _ _ _ r w' h) hyp ww_1050 ww_1051 (by decide) (by decide) (by first | exact ⟨Nat.le_of_ble_eq_true rfl, Nat.le_of_ble_eq_true rfl⟩ | (constructor <;> (show _ ≤ _; simp only [room_1]; omega))) rfl rfl (xroom (Nat.le_of_ble_eq_true rfl)) dL_law_953 (push := (fun r189 => [.int r189])) (fun _ => rfl) (fun r189 w188 hyp => ?_)
  refine r_istore (lv' := [(5, .int r189), (0, .ref b), (1, .ref x1), (2, .ref x2), (3, .ref x3), (4, .int x4)]) G dL_law_956 (by decide) ⟨fun _ => rfl, fun _ => rfl, fun _ => rfl, fun _ => rfl, fun _ => rfl, trivial⟩ rfl ?_
  refine r_aload_n G 3 dL_law_958 rfl rfl ?_
  refine r_aload_n G 1 dL_law_959 rfl rfl ?_
  refine r_iload G 5 dL_law_960 rfl ?_
  refine r_iconst (v := 1) G dL_law_962 (by decide) ?_
  refine r_iadd G dL_law_963 ?_
  obtain ⟨h190, hyp⟩ := x_chk hyp
  refine r_sld G hX h190 dL_law_964 ?_
  obtain ⟨o193, hyp⟩ := x_chk hyp
  refine r_callLV (ι := xI) (T := TX7) (N := 22) (ci := 7) (b := x2) (rest := []) (As := [.int (xs ((x4 + 1)).toNatClampNeg)]) G tg_X7_isVisible (fun r w' h => ct_X7_isVisible (xhl G) _ _ _ r w' h) o193 hyp rfl ww_1052 ww_1054 ww_1053 (by decide) (by decide) (by first | exact ⟨Nat.le_of_ble_eq_true rfl, Nat.le_of_ble_eq_true rfl⟩ | (constructor <;> (show _ ≤ _; simp only [room_1]; omega))) rfl rfl (xroom (Nat.le_of_ble_eq_true rfl)) dL_law_965 (push := (fun r192 => [.int r192])) (fun _ => rfl) (fun r192 w191 hyp => ?_)
  refine r_istore (lv' := [(6, .int r192), (5, .int r189), (0, .ref b), (1, .ref x1), (2, .ref x2), (3, .ref x3), (4, .int x4)]) G dL_law_968 (by decide) ⟨fun _ => rfl, fun _ => rfl, fun _ => rfl, fun _ => rfl, fun _ => rfl, fun _ => rfl, trivial⟩ rfl ?_
  refine r_aload_n G 4 dL_law_970 rfl rfl ?_
  obtain ⟨o196, hyp⟩ := x_chk hyp
  refine r_callLV (ι := xI) (T := TX7) (N := 22) (ci := 7) (b := x2) (rest := []) (As := []) G tg_X7_thrown (fun r w' h => ct_X7_thrown (xhl G) _ _ r w' h) o196 hyp rfl ww_996 ww_998 ww_997 (by decide) (by decide) (by first | exact ⟨Nat.le_of_ble_eq_true rfl, Nat.le_of_ble_eq_true rfl⟩ | (constructor <;> (show _ ≤ _; simp only [room_1]; omega))) rfl rfl (xroom (Nat.le_of_ble_eq_true rfl)) dL_law_971 (push := (fun r195 => [.int r195])) (fun _ => rfl) (fun r195 w194 hyp => ?_)
  refine r_iload G 1 dL_law_974 rfl ?_
  refine r_icmp_eq G 981 dL_law_976 (by decide) hyp (fun c197 hyp => ?_) (fun c197 hyp => ?_)
  · refine r_iload G 1 dL_law_981 rfl ?_
    refine r_if_ne G 1005 dL_law_983 (by decide) hyp (fun c198 hyp => ?_) (fun c198 hyp => ?_)
    · refine r_goto G 2578 dL_law_1005 (by decide) ?_
      refine r_iinc (v := (x4 + 7)) (lv' := [(4, .int (x4 + 7)), (6, .int r192), (5, .int r189), (0, .ref b), (1, .ref x1), (2, .ref x2), (3, .ref x3)]) G 6 dL_law_2578 rfl rfl (by decide) ⟨fun _ => rfl, fun _ => rfl, fun _ => rfl, fun _ => rfl, fun _ => rfl, fun _ => rfl, fun _ => rfl, trivial⟩ rfl ?_
      refine r_goto G 23 dL_law_2581 (by decide) ?_
      refine r_weak (lv' := [(0, .ref b), (1, .ref x1), (2, .ref x2), (3, .ref x3), (4, .int (x4 + 7))]) [3, 4, 5, 6, 0] rfl ?_
      exact hk23 x1 x2 x3 (x4 + 7) w194 _ _ (by omega) (by omega) hyp
    · refine r_aload_n G 5 dL_law_986 rfl rfl ?_
      refine r_iconst (v := 0) G dL_law_987 (by decide) ?_
      obtain ⟨v199, hv199, hyp⟩ := x_some hyp
      refine r_lald G hv199 dL_law_988 ?_
      refine r_iload G 0 dL_law_989 rfl ?_
      refine r_if_eq G 998 dL_law_991 (by decide) hyp (fun c200 hyp => ?_) (fun c200 hyp => ?_)
      · refine r_lconst (v := 0) G dL_law_998 (by decide) ?_
        refine r_lcmp G dL_law_999 ?_
        refine r_if_eq G 1005 dL_law_1000 (by decide) hyp (fun c201 hyp => ?_) (fun c201 hyp => ?_)
        · refine r_goto G 2578 dL_law_1005 (by decide) ?_
          refine r_iinc (v := (x4 + 7)) (lv' := [(4, .int (x4 + 7)), (6, .int r192), (5, .int r189), (0, .ref b), (1, .ref x1), (2, .ref x2), (3, .ref x3)]) G 6 dL_law_2578 rfl rfl (by decide) ⟨fun _ => rfl, fun _ => rfl, fun _ => rfl, fun _ => rfl, fun _ => rfl, fun _ => rfl, fun _ => rfl, trivial⟩ rfl ?_
          refine r_goto G 23 dL_law_2581 (by decide) ?_
          refine r_weak (lv' := [(0, .ref b), (1, .ref x1), (2, .ref x2), (3, .ref x3), (4, .int (x4 + 7))]) [3, 4, 5, 6, 0] rfl ?_
          exact hk23 x1 x2 x3 (x4 + 7) w194 _ _ (by omega) (by omega) hyp
        · refine r_iconst (v := 0) G dL_law_1003 (by decide) ?_
          exact r_lwF hyp
      · refine r_lconst (v := 1) G dL_law_994 (by decide) ?_
        refine r_goto G 999 dL_law_995 (by decide) ?_
        refine r_lcmp G dL_law_999 ?_
        refine r_if_eq G 1005 dL_law_1000 (by decide) hyp (fun c202 hyp => ?_) (fun c202 hyp => ?_)
        · refine r_goto G 2578 dL_law_1005 (by decide) ?_
          refine r_iinc (v := (x4 + 7)) (lv' := [(4, .int (x4 + 7)), (6, .int r192), (5, .int r189), (0, .ref b), (1, .ref x1), (2, .ref x2), (3, .ref x3)]) G 6 dL_law_2578 rfl rfl (by decide) ⟨fun _ => rfl, fun _ => rfl, fun _ => rfl, fun _ => rfl, fun _ => rfl, fun _ => rfl, fun _ => rfl, trivial⟩ rfl ?_
          refine r_goto G 23 dL_law_2581 (by decide) ?_
          refine r_weak (lv' := [(0, .ref b), (1, .ref x1), (2, .ref x2), (3, .ref x3), (4, .int (x4 + 7))]) [3, 4, 5, 6, 0] rfl ?_
          exact hk23 x1 x2 x3 (x4 + 7) w194 _ _ (by omega) (by omega) hyp
        · refine r_iconst (v := 0) G dL_law_1003 (by decide) ?_
          exact r_lwF hyp
  · refine r_iconst (v := 0) G dL_law_979 (by decide) ?_
    exact r_lwF hyp
end
section
variable {Γ : xG} {p : Program} {l : Launch} {e : Env} {s : State} {m : MethodId} {below : List Frame} {meth : Method} {c : Code} {wF : xW} {b L : Nat} {xs : Nat → Int32}
set_option maxRecDepth 100000 in
set_option maxHeartbeats 4000000 in
theorem nd_L_law_J1008 {k23 : Nat → Nat → Nat → Int32 → xW → xO Int32} (G : xCx Γ p l s m #[Value.ref b] meth c RL cL_law 9 (some .boolean)) (hN : xNc s) (hX : xSc Γ b L xs s) (n : Nat) (hk23 : ∀ (x1 : Nat) (x2 : Nat) (x3 : Nat) (x4 : Int32) (w : xW) (cells slots : Nat), cells + n * 1 ≤ 601024 → slots + n * 6 ≤ 7293034 → k23 x1 x2 x3 x4 w = some (Sum.inl (1 : Int32), wF) → xAW Γ p l e room_1 s m #[Value.ref b] below meth c 9 (lw_Z below #[Value.ref b] s) w cells slots 23 [(0, .ref b), (1, .ref x1), (2, .ref x2), (3, .ref x3), (4, .int x4)] []) (x1 : Nat) (x2 : Nat) (x3 : Nat) (x4 : Int32) (w0 : xW) (cells slots : Nat) (hcl : cells + (n + 1) * 1 ≤ 601024) (hsl : slots + (n + 1) * 6 ≤ 7293034) (hyp : f_L_law_J1008 xs L k23 x1 x2 x3 x4 w0 = some (Sum.inl (1 : Int32), wF)) : xAW Γ p l e room_1 s m #[Value.ref b] below meth c 9 (lw_Z below #[Value.ref b] s) w0 cells slots 1008 [(0, .ref b), (1, .ref x1), (2, .ref x2), (3, .ref x3), (4, .int x4)] [] := by
  rw [f_L_law_J1008] at hyp
  refine r_aload_n G 1 dL_law_1008 rfl rfl ?_
  refine r_aload_n G 0 dL_law_1009 rfl rfl ?_
  refine r_iload G 4 dL_law_1010 rfl ?_
  refine r_iconst (v := 1) G dL_law_1012 (by decide) ?_
  refine r_iadd G dL_law_1013 ?_
  obtain ⟨h204, hyp⟩ := x_chk hyp
  refine r_sld G hX h204 dL_law_1014 ?_
  refine r_aload_n G 0 dL_law_1015 rfl rfl ?_
  refine r_iload G 4 dL_law_1016 rfl ?_
  refine r_iconst (v := 2) G dL_law_1018 (by decide) ?_
  refine r_iadd G dL_law_1019 ?_
  obtain ⟨h205, hyp⟩ := x_chk hyp
  refine r_sld G hX h205 dL_law_1020 ?_
  refine r_aload_n G 0 dL_law_1021 rfl rfl ?_
  refine r_iload G 4 dL_law_1022 rfl ?_
  refine r_iconst (v := 3) G dL_law_1024 (by decide) ?_
  refine r_iadd G dL_law_1025 ?_
  obtain ⟨h206, hyp⟩ := x_chk hyp
  refine r_sld G hX h206 dL_law_1026 ?_
  refine r_aload_n G 3 dL_law_1027 rfl rfl ?_
  refine r_callLS (ι := xI) (rest := []) (As := [va_rf (some x1), .int (xs ((x4 + 1)).toNatClampNeg), .int (xs ((x4 + 2)).toNatClampNeg), .int (xs ((x4 + 3)).toNatClampNeg), va_rf (some x3)]) G hN tgh_L_hasTone (fun r w' h => ct_L_hasTone (xhl G) _ _ _ _ _ _ r w' h) hyp ww_1055 ww_1056 (by decide) (by decide) (by first | exact ⟨Nat.le_of_ble_eq_true rfl, Nat.le_of_ble_eq_true rfl⟩ | (constructor <;> (show _ ≤ _; simp only [room_1]; omega))) rfl rfl (xroom (Nat.le_of_ble_eq_true rfl)) dL_law_1028 (push := (fun r208 => [.int r208])) (fun _ => rfl) (fun r208 w207 hyp => ?_)
  refine r_istore (lv' := [(5, .int r208), (0, .ref b), (1, .ref x1), (2, .ref x2), (3, .ref x3), (4, .int x4)]) G dL_law_1031 (by decide) ⟨fun _ => rfl, fun _ => rfl, fun _ => rfl, fun _ => rfl, fun _ => rfl, trivial⟩ rfl ?_
  refine r_aload_n G 3 dL_law_1033 rfl rfl ?_
  refine r_aload_n G 1 dL_law_1034 rfl rfl ?_
  refine r_iload G 5 dL_law_1035 rfl ?_
  refine r_iconst (v := 1) G dL_law_1037 (by decide) ?_
  refine r_iadd G dL_law_1038 ?_
  obtain ⟨h209, hyp⟩ := x_chk hyp
  refine r_sld G hX h209 dL_law_1039 ?_
  refine r_aload_n G 1 dL_law_1040 rfl rfl ?_
  refine r_iload G 5 dL_law_1041 rfl ?_
  refine r_iconst (v := 2) G dL_law_1043 (by decide) ?_
  refine r_iadd G dL_law_1044 ?_
  obtain ⟨h210, hyp⟩ := x_chk hyp
  refine r_sld G hX h210 dL_law_1045 ?_
  refine r_aload_n G 1 dL_law_1046 rfl rfl ?_
  refine r_iload G 5 dL_law_1047 rfl ?_
  refine r_iconst (v := 3) G dL_law_1049 (by decide) ?_
  refine r_iadd G dL_law_1050 ?_
  obtain ⟨h211, hyp⟩ := x_chk hyp
  refine r_sld G hX h211 dL_law_1051 ?_
  obtain ⟨o214, hyp⟩ := x_chk hyp
  refine r_callLV (ι := xI) (T := TX7) (N := 22) (ci := 7) (b := x2) (rest := []) (As := [.int (xs ((x4 + 1)).toNatClampNeg), .int (xs ((x4 + 2)).toNatClampNeg), .int (xs ((x4 + 3)).toNatClampNeg)]) G tg_X7_hasTone (fun r w' h => ct_X7_hasTone (xhl G) _ _ _ _ _ r w' h) o214 hyp rfl ww_1057 ww_1059 ww_1058 (by decide) (by decide) (by first | exact ⟨Nat.le_of_ble_eq_true rfl, Nat.le_of_ble_eq_true rfl⟩ | (constructor <;> (show _ ≤ _; simp only [room_1]; omega))) rfl rfl (xroom (Nat.le_of_ble_eq_true rfl)) dL_law_1052 (push := (fun r213 => [.int r213])) (fun _ => rfl) (fun r213 w212 hyp => ?_)
  refine r_istore (lv' := [(6, .int r213), (5, .int r208), (0, .ref b), (1, .ref x1), (2, .ref x2), (3, .ref x3), (4, .int x4)]) G dL_law_1055 (by decide) ⟨fun _ => rfl, fun _ => rfl, fun _ => rfl, fun _ => rfl, fun _ => rfl, fun _ => rfl, trivial⟩ rfl ?_
  refine r_aload_n G 4 dL_law_1057 rfl rfl ?_
  obtain ⟨o217, hyp⟩ := x_chk hyp
  refine r_callLV (ι := xI) (T := TX7) (N := 22) (ci := 7) (b := x2) (rest := []) (As := []) G tg_X7_thrown (fun r w' h => ct_X7_thrown (xhl G) _ _ r w' h) o217 hyp rfl ww_996 ww_998 ww_997 (by decide) (by decide) (by first | exact ⟨Nat.le_of_ble_eq_true rfl, Nat.le_of_ble_eq_true rfl⟩ | (constructor <;> (show _ ≤ _; simp only [room_1]; omega))) rfl rfl (xroom (Nat.le_of_ble_eq_true rfl)) dL_law_1058 (push := (fun r216 => [.int r216])) (fun _ => rfl) (fun r216 w215 hyp => ?_)
  refine r_iload G 1 dL_law_1061 rfl ?_
  refine r_icmp_eq G 1068 dL_law_1063 (by decide) hyp (fun c218 hyp => ?_) (fun c218 hyp => ?_)
  · refine r_iload G 1 dL_law_1068 rfl ?_
    refine r_if_ne G 1092 dL_law_1070 (by decide) hyp (fun c219 hyp => ?_) (fun c219 hyp => ?_)
    · refine r_goto G 2578 dL_law_1092 (by decide) ?_
      refine r_iinc (v := (x4 + 7)) (lv' := [(4, .int (x4 + 7)), (6, .int r213), (5, .int r208), (0, .ref b), (1, .ref x1), (2, .ref x2), (3, .ref x3)]) G 6 dL_law_2578 rfl rfl (by decide) ⟨fun _ => rfl, fun _ => rfl, fun _ => rfl, fun _ => rfl, fun _ => rfl, fun _ => rfl, fun _ => rfl, trivial⟩ rfl ?_
      refine r_goto G 23 dL_law_2581 (by decide) ?_
      refine r_weak (lv' := [(0, .ref b), (1, .ref x1), (2, .ref x2), (3, .ref x3), (4, .int (x4 + 7))]) [3, 4, 5, 6, 0] rfl ?_
      exact hk23 x1 x2 x3 (x4 + 7) w215 _ _ (by omega) (by omega) hyp
    · refine r_aload_n G 5 dL_law_1073 rfl rfl ?_
      refine r_iconst (v := 0) G dL_law_1074 (by decide) ?_
      obtain ⟨v220, hv220, hyp⟩ := x_some hyp
      refine r_lald G hv220 dL_law_1075 ?_
      refine r_iload G 0 dL_law_1076 rfl ?_
      refine r_if_eq G 1085 dL_law_1078 (by decide) hyp (fun c221 hyp => ?_) (fun c221 hyp => ?_)
      · refine r_lconst (v := 0) G dL_law_1085 (by decide) ?_
        refine r_lcmp G dL_law_1086 ?_
        refine r_if_eq G 1092 dL_law_1087 (by decide) hyp (fun c222 hyp => ?_) (fun c222 hyp => ?_)
        · refine r_goto G 2578 dL_law_1092 (by decide) ?_
          refine r_iinc (v := (x4 + 7)) (lv' := [(4, .int (x4 + 7)), (6, .int r213), (5, .int r208), (0, .ref b), (1, .ref x1), (2, .ref x2), (3, .ref x3)]) G 6 dL_law_2578 rfl rfl (by decide) ⟨fun _ => rfl, fun _ => rfl, fun _ => rfl, fun _ => rfl, fun _ => rfl, fun _ => rfl, fun _ => rfl, trivial⟩ rfl ?_
          refine r_goto G 23 dL_law_2581 (by decide) ?_
          refine r_weak (lv' := [(0, .ref b), (1, .ref x1), (2, .ref x2), (3, .ref x3), (4, .int (x4 + 7))]) [3, 4, 5, 6, 0] rfl ?_
          exact hk23 x1 x2 x3 (x4 + 7) w215 _ _ (by omega) (by omega) hyp
        · refine r_iconst (v := 0) G dL_law_1090 (by decide) ?_
          exact r_lwF hyp
      · refine r_lconst (v := 1) G dL_law_1081 (by decide) ?_
        refine r_goto G 1086 dL_law_1082 (by decide) ?_
        refine r_lcmp G dL_law_1086 ?_
        refine r_if_eq G 1092 dL_law_1087 (by decide) hyp (fun c223 hyp => ?_) (fun c223 hyp => ?_)
        · refine r_goto G 2578 dL_law_1092 (by decide) ?_
          refine r_iinc (v := (x4 + 7)) (lv' := [(4, .int (x4 + 7)), (6, .int r213), (5, .int r208), (0, .ref b), (1, .ref x1), (2, .ref x2), (3, .ref x3)]) G 6 dL_law_2578 rfl rfl (by decide) ⟨fun _ => rfl, fun _ => rfl, fun _ => rfl, fun _ => rfl, fun _ => rfl, fun _ => rfl, fun _ => rfl, trivial⟩ rfl ?_
          refine r_goto G 23 dL_law_2581 (by decide) ?_
          refine r_weak (lv' := [(0, .ref b), (1, .ref x1), (2, .ref x2), (3, .ref x3), (4, .int (x4 + 7))]) [3, 4, 5, 6, 0] rfl ?_
          exact hk23 x1 x2 x3 (x4 + 7) w215 _ _ (by omega) (by omega) hyp
        · refine r_iconst (v := 0) G dL_law_1090 (by decide) ?_
          exact r_lwF hyp
  · refine r_iconst (v := 0) G dL_law_1066 (by decide) ?_
    exact r_lwF hyp
end
section
variable {Γ : xG} {p : Program} {l : Launch} {e : Env} {s : State} {m : MethodId} {below : List Frame} {meth : Method} {c : Code} {wF : xW} {b L : Nat} {xs : Nat → Int32}
set_option maxRecDepth 100000 in
set_option maxHeartbeats 4000000 in
theorem nd_L_law_J1095 {k23 : Nat → Nat → Nat → Int32 → xW → xO Int32} (G : xCx Γ p l s m #[Value.ref b] meth c RL cL_law 9 (some .boolean)) (hN : xNc s) (hX : xSc Γ b L xs s) (n : Nat) (hk23 : ∀ (x1 : Nat) (x2 : Nat) (x3 : Nat) (x4 : Int32) (w : xW) (cells slots : Nat), cells + n * 1 ≤ 601024 → slots + n * 6 ≤ 7293034 → k23 x1 x2 x3 x4 w = some (Sum.inl (1 : Int32), wF) → xAW Γ p l e room_1 s m #[Value.ref b] below meth c 9 (lw_Z below #[Value.ref b] s) w cells slots 23 [(0, .ref b), (1, .ref x1), (2, .ref x2), (3, .ref x3), (4, .int x4)] []) (x1 : Nat) (x2 : Nat) (x3 : Nat) (x4 : Int32) (w0 : xW) (cells slots : Nat) (hcl : cells + (n + 1) * 1 ≤ 601024) (hsl : slots + (n + 1) * 6 ≤ 7293034) (hyp : f_L_law_J1095 xs L k23 x1 x2 x3 x4 w0 = some (Sum.inl (1 : Int32), wF)) : xAW Γ p l e room_1 s m #[Value.ref b] below meth c 9 (lw_Z below #[Value.ref b] s) w0 cells slots 1095 [(0, .ref b), (1, .ref x1), (2, .ref x2), (3, .ref x3), (4, .int x4)] [] := by
  rw [f_L_law_J1095] at hyp
  refine r_aload_n G 1 dL_law_1095 rfl rfl ?_
  refine r_aload_n G 0 dL_law_1096 rfl rfl ?_
  refine r_iload G 4 dL_law_1097 rfl ?_
  refine r_iconst (v := 1) G dL_law_1099 (by decide) ?_
  refine r_iadd G dL_law_1100 ?_
  obtain ⟨h225, hyp⟩ := x_chk hyp
  refine r_sld G hX h225 dL_law_1101 ?_
  refine r_aload_n G 0 dL_law_1102 rfl rfl ?_
  refine r_iload G 4 dL_law_1103 rfl ?_
  refine r_iconst (v := 2) G dL_law_1105 (by decide) ?_
  refine r_iadd G dL_law_1106 ?_
  obtain ⟨h226, hyp⟩ := x_chk hyp
  refine r_sld G hX h226 dL_law_1107 ?_
  refine r_aload_n G 0 dL_law_1108 rfl rfl ?_
  refine r_iload G 4 dL_law_1109 rfl ?_
  refine r_iconst (v := 3) G dL_law_1111 (by decide) ?_
  refine r_iadd G dL_law_1112 ?_
  obtain ⟨h227, hyp⟩ := x_chk hyp
  refine r_sld G hX h227 dL_law_1113 ?_
  refine r_aload_n G 3 dL_law_1114 rfl rfl ?_
  refine r_callLS (ι := xI) (rest := []) (As := [va_rf (some x1), .int (xs ((x4 + 1)).toNatClampNeg), .int (xs ((x4 + 2)).toNatClampNeg), .int (xs ((x4 + 3)).toNatClampNeg), va_rf (some x3)]) G hN tgh_L_tone (fun r w' h => ct_L_tone (xhl G) _ _ _ _ _ _ r w' h) hyp ww_1060 ww_1061 (by decide) (by decide) (by first | exact ⟨Nat.le_of_ble_eq_true rfl, Nat.le_of_ble_eq_true rfl⟩ | (constructor <;> (show _ ≤ _; simp only [room_1]; omega))) rfl rfl (xroom (Nat.le_of_ble_eq_true rfl)) dL_law_1115 (push := (fun r229 => [.int r229])) (fun _ => rfl) (fun r229 w228 hyp => ?_)
  refine r_istore (lv' := [(5, .int r229), (0, .ref b), (1, .ref x1), (2, .ref x2), (3, .ref x3), (4, .int x4)]) G dL_law_1118 (by decide) ⟨fun _ => rfl, fun _ => rfl, fun _ => rfl, fun _ => rfl, fun _ => rfl, trivial⟩ rfl ?_
  refine r_aload_n G 3 dL_law_1120 rfl rfl ?_
  refine r_aload_n G 1 dL_law_1121 rfl rfl ?_
  refine r_iload G 5 dL_law_1122 rfl ?_
  refine r_iconst (v := 1) G dL_law_1124 (by decide) ?_
  refine r_iadd G dL_law_1125 ?_
  obtain ⟨h230, hyp⟩ := x_chk hyp
  refine r_sld G hX h230 dL_law_1126 ?_
  refine r_aload_n G 1 dL_law_1127 rfl rfl ?_
  refine r_iload G 5 dL_law_1128 rfl ?_
  refine r_iconst (v := 2) G dL_law_1130 (by decide) ?_
  refine r_iadd G dL_law_1131 ?_
  obtain ⟨h231, hyp⟩ := x_chk hyp
  refine r_sld G hX h231 dL_law_1132 ?_
  refine r_aload_n G 1 dL_law_1133 rfl rfl ?_
  refine r_iload G 5 dL_law_1134 rfl ?_
  refine r_iconst (v := 3) G dL_law_1136 (by decide) ?_
  refine r_iadd G dL_law_1137 ?_
  obtain ⟨h232, hyp⟩ := x_chk hyp
  refine r_sld G hX h232 dL_law_1138 ?_
  obtain ⟨o235, hyp⟩ := x_chk hyp
  refine r_callLV (ι := xI) (T := TX7) (N := 22) (ci := 7) (b := x2) (rest := []) (As := [.int (xs ((x4 + 1)).toNatClampNeg), .int (xs ((x4 + 2)).toNatClampNeg), .int (xs ((x4 + 3)).toNatClampNeg)]) G tg_X7_tone (fun r w' h => ct_X7_tone (xhl G) _ _ _ _ _ r w' h) o235 hyp rfl ww_1062 ww_1064 ww_1063 (by decide) (by decide) (by first | exact ⟨Nat.le_of_ble_eq_true rfl, Nat.le_of_ble_eq_true rfl⟩ | (constructor <;> (show _ ≤ _; simp only [room_1]; omega))) rfl rfl (xroom (Nat.le_of_ble_eq_true rfl)) dL_law_1139 (push := (fun r234 => [.int r234])) (fun _ => rfl) (fun r234 w233 hyp => ?_)
  refine r_istore (lv' := [(6, .int r234), (5, .int r229), (0, .ref b), (1, .ref x1), (2, .ref x2), (3, .ref x3), (4, .int x4)]) G dL_law_1142 (by decide) ⟨fun _ => rfl, fun _ => rfl, fun _ => rfl, fun _ => rfl, fun _ => rfl, fun _ => rfl, trivial⟩ rfl ?_
  refine r_aload_n G 4 dL_law_1144 rfl rfl ?_
  obtain ⟨o238, hyp⟩ := x_chk hyp
  refine r_callLV (ι := xI) (T := TX7) (N := 22) (ci := 7) (b := x2) (rest := []) (As := []) G tg_X7_thrown (fun r w' h => ct_X7_thrown (xhl G) _ _ r w' h) o238 hyp rfl ww_996 ww_998 ww_997 (by decide) (by decide) (by first | exact ⟨Nat.le_of_ble_eq_true rfl, Nat.le_of_ble_eq_true rfl⟩ | (constructor <;> (show _ ≤ _; simp only [room_1]; omega))) rfl rfl (xroom (Nat.le_of_ble_eq_true rfl)) dL_law_1145 (push := (fun r237 => [.int r237])) (fun _ => rfl) (fun r237 w236 hyp => ?_)
  refine r_iload G 1 dL_law_1148 rfl ?_
  refine r_icmp_eq G 1155 dL_law_1150 (by decide) hyp (fun c239 hyp => ?_) (fun c239 hyp => ?_)
  · refine r_iload G 1 dL_law_1155 rfl ?_
    refine r_if_ne G 1172 dL_law_1157 (by decide) hyp (fun c240 hyp => ?_) (fun c240 hyp => ?_)
    · refine r_goto G 2578 dL_law_1172 (by decide) ?_
      refine r_iinc (v := (x4 + 7)) (lv' := [(4, .int (x4 + 7)), (6, .int r234), (5, .int r229), (0, .ref b), (1, .ref x1), (2, .ref x2), (3, .ref x3)]) G 6 dL_law_2578 rfl rfl (by decide) ⟨fun _ => rfl, fun _ => rfl, fun _ => rfl, fun _ => rfl, fun _ => rfl, fun _ => rfl, fun _ => rfl, trivial⟩ rfl ?_
      refine r_goto G 23 dL_law_2581 (by decide) ?_
      refine r_weak (lv' := [(0, .ref b), (1, .ref x1), (2, .ref x2), (3, .ref x3), (4, .int (x4 + 7))]) [3, 4, 5, 6, 0] rfl ?_
      exact hk23 x1 x2 x3 (x4 + 7) w236 _ _ (by omega) (by omega) hyp
    · refine r_aload_n G 5 dL_law_1160 rfl rfl ?_
      refine r_iconst (v := 0) G dL_law_1161 (by decide) ?_
      obtain ⟨v241, hv241, hyp⟩ := x_some hyp
      refine r_lald G hv241 dL_law_1162 ?_
      refine r_iload G 0 dL_law_1163 rfl ?_
      refine r_i2l G dL_law_1165 ?_
      refine r_lcmp G dL_law_1166 ?_
      refine r_if_eq G 1172 dL_law_1167 (by decide) hyp (fun c242 hyp => ?_) (fun c242 hyp => ?_)
      · refine r_goto G 2578 dL_law_1172 (by decide) ?_
        refine r_iinc (v := (x4 + 7)) (lv' := [(4, .int (x4 + 7)), (6, .int r234), (5, .int r229), (0, .ref b), (1, .ref x1), (2, .ref x2), (3, .ref x3)]) G 6 dL_law_2578 rfl rfl (by decide) ⟨fun _ => rfl, fun _ => rfl, fun _ => rfl, fun _ => rfl, fun _ => rfl, fun _ => rfl, fun _ => rfl, trivial⟩ rfl ?_
        refine r_goto G 23 dL_law_2581 (by decide) ?_
        refine r_weak (lv' := [(0, .ref b), (1, .ref x1), (2, .ref x2), (3, .ref x3), (4, .int (x4 + 7))]) [3, 4, 5, 6, 0] rfl ?_
        exact hk23 x1 x2 x3 (x4 + 7) w236 _ _ (by omega) (by omega) hyp
      · refine r_iconst (v := 0) G dL_law_1170 (by decide) ?_
        exact r_lwF hyp
  · refine r_iconst (v := 0) G dL_law_1153 (by decide) ?_
    exact r_lwF hyp
end
section
variable {Γ : xG} {p : Program} {l : Launch} {e : Env} {s : State} {m : MethodId} {below : List Frame} {meth : Method} {c : Code} {wF : xW} {b L : Nat} {xs : Nat → Int32}
set_option maxRecDepth 100000 in
set_option maxHeartbeats 4000000 in
theorem nd_L_law_J1175 {k23 : Nat → Nat → Nat → Int32 → xW → xO Int32} (G : xCx Γ p l s m #[Value.ref b] meth c RL cL_law 9 (some .boolean)) (hN : xNc s) (hX : xSc Γ b L xs s) (n : Nat) (hk23 : ∀ (x1 : Nat) (x2 : Nat) (x3 : Nat) (x4 : Int32) (w : xW) (cells slots : Nat), cells + n * 1 ≤ 601024 → slots + n * 6 ≤ 7293034 → k23 x1 x2 x3 x4 w = some (Sum.inl (1 : Int32), wF) → xAW Γ p l e room_1 s m #[Value.ref b] below meth c 9 (lw_Z below #[Value.ref b] s) w cells slots 23 [(0, .ref b), (1, .ref x1), (2, .ref x2), (3, .ref x3), (4, .int x4)] []) (x1 : Nat) (x2 : Nat) (x3 : Nat) (x4 : Int32) (w0 : xW) (cells slots : Nat) (hcl : cells + (n + 1) * 1 ≤ 601024) (hsl : slots + (n + 1) * 6 ≤ 7293034) (hyp : f_L_law_J1175 xs L k23 x1 x2 x3 x4 w0 = some (Sum.inl (1 : Int32), wF)) : xAW Γ p l e room_1 s m #[Value.ref b] below meth c 9 (lw_Z below #[Value.ref b] s) w0 cells slots 1175 [(0, .ref b), (1, .ref x1), (2, .ref x2), (3, .ref x3), (4, .int x4)] [] := by
  rw [f_L_law_J1175] at hyp
  refine r_aload_n G 1 dL_law_1175 rfl rfl ?_
  refine r_aload_n G 0 dL_law_1176 rfl rfl ?_
  refine r_iload G 4 dL_law_1177 rfl ?_
  refine r_iconst (v := 1) G dL_law_1179 (by decide) ?_
  refine r_iadd G dL_law_1180 ?_
  obtain ⟨h244, hyp⟩ := x_chk hyp
  refine r_sld G hX h244 dL_law_1181 ?_
  refine r_aload_n G 3 dL_law_1182 rfl rfl ?_
  refine r_callLS (ι := xI) (rest := []) (As := [va_rf (some x1), .int (xs ((x4 + 1)).toNatClampNeg), va_rf (some x3)]) G hN tgh_L_painted (fun r w' h => ct_L_painted (xhl G) _ _ _ _ r w' h) hyp ww_1065 ww_1066 (by decide) (by decide) (by first | exact ⟨Nat.le_of_ble_eq_true rfl, Nat.le_of_ble_eq_true rfl⟩ | (constructor <;> (show _ ≤ _; simp only [room_1]; omega))) rfl rfl (xroom (Nat.le_of_ble_eq_true rfl)) dL_law_1183 (push := (fun r246 => [.int r246])) (fun _ => rfl) (fun r246 w245 hyp => ?_)
  refine r_istore (lv' := [(5, .int r246), (0, .ref b), (1, .ref x1), (2, .ref x2), (3, .ref x3), (4, .int x4)]) G dL_law_1186 (by decide) ⟨fun _ => rfl, fun _ => rfl, fun _ => rfl, fun _ => rfl, fun _ => rfl, trivial⟩ rfl ?_
  refine r_aload_n G 3 dL_law_1188 rfl rfl ?_
  refine r_aload_n G 1 dL_law_1189 rfl rfl ?_
  refine r_iload G 5 dL_law_1190 rfl ?_
  refine r_iconst (v := 1) G dL_law_1192 (by decide) ?_
  refine r_iadd G dL_law_1193 ?_
  obtain ⟨h247, hyp⟩ := x_chk hyp
  refine r_sld G hX h247 dL_law_1194 ?_
  obtain ⟨o250, hyp⟩ := x_chk hyp
  refine r_callLV (ι := xI) (T := TX7) (N := 22) (ci := 7) (b := x2) (rest := []) (As := [.int (xs ((x4 + 1)).toNatClampNeg)]) G tg_X7_painted (fun r w' h => ct_X7_painted (xhl G) _ _ _ r w' h) o250 hyp rfl ww_1067 ww_1069 ww_1068 (by decide) (by decide) (by first | exact ⟨Nat.le_of_ble_eq_true rfl, Nat.le_of_ble_eq_true rfl⟩ | (constructor <;> (show _ ≤ _; simp only [room_1]; omega))) rfl rfl (xroom (Nat.le_of_ble_eq_true rfl)) dL_law_1195 (push := (fun r249 => [.int r249])) (fun _ => rfl) (fun r249 w248 hyp => ?_)
  refine r_istore (lv' := [(6, .int r249), (5, .int r246), (0, .ref b), (1, .ref x1), (2, .ref x2), (3, .ref x3), (4, .int x4)]) G dL_law_1198 (by decide) ⟨fun _ => rfl, fun _ => rfl, fun _ => rfl, fun _ => rfl, fun _ => rfl, fun _ => rfl, trivial⟩ rfl ?_
  refine r_aload_n G 4 dL_law_1200 rfl rfl ?_
  obtain ⟨o253, hyp⟩ := x_chk hyp
  refine r_callLV (ι := xI) (T := TX7) (N := 22) (ci := 7) (b := x2) (rest := []) (As := []) G tg_X7_thrown (fun r w' h => ct_X7_thrown (xhl G) _ _ r w' h) o253 hyp rfl ww_996 ww_998 ww_997 (by decide) (by decide) (by first | exact ⟨Nat.le_of_ble_eq_true rfl, Nat.le_of_ble_eq_true rfl⟩ | (constructor <;> (show _ ≤ _; simp only [room_1]; omega))) rfl rfl (xroom (Nat.le_of_ble_eq_true rfl)) dL_law_1201 (push := (fun r252 => [.int r252])) (fun _ => rfl) (fun r252 w251 hyp => ?_)
  refine r_iload G 1 dL_law_1204 rfl ?_
  refine r_icmp_eq G 1211 dL_law_1206 (by decide) hyp (fun c254 hyp => ?_) (fun c254 hyp => ?_)
  · refine r_iload G 1 dL_law_1211 rfl ?_
    refine r_if_ne G 1228 dL_law_1213 (by decide) hyp (fun c255 hyp => ?_) (fun c255 hyp => ?_)
    · refine r_goto G 2578 dL_law_1228 (by decide) ?_
      refine r_iinc (v := (x4 + 7)) (lv' := [(4, .int (x4 + 7)), (6, .int r249), (5, .int r246), (0, .ref b), (1, .ref x1), (2, .ref x2), (3, .ref x3)]) G 6 dL_law_2578 rfl rfl (by decide) ⟨fun _ => rfl, fun _ => rfl, fun _ => rfl, fun _ => rfl, fun _ => rfl, fun _ => rfl, fun _ => rfl, trivial⟩ rfl ?_
      refine r_goto G 23 dL_law_2581 (by decide) ?_
      refine r_weak (lv' := [(0, .ref b), (1, .ref x1), (2, .ref x2), (3, .ref x3), (4, .int (x4 + 7))]) [3, 4, 5, 6, 0] rfl ?_
      exact hk23 x1 x2 x3 (x4 + 7) w251 _ _ (by omega) (by omega) hyp
    · refine r_aload_n G 5 dL_law_1216 rfl rfl ?_
      refine r_iconst (v := 0) G dL_law_1217 (by decide) ?_
      obtain ⟨v256, hv256, hyp⟩ := x_some hyp
      refine r_lald G hv256 dL_law_1218 ?_
      refine r_iload G 0 dL_law_1219 rfl ?_
      refine r_i2l G dL_law_1221 ?_
      refine r_lcmp G dL_law_1222 ?_
      refine r_if_eq G 1228 dL_law_1223 (by decide) hyp (fun c257 hyp => ?_) (fun c257 hyp => ?_)
      · refine r_goto G 2578 dL_law_1228 (by decide) ?_
        refine r_iinc (v := (x4 + 7)) (lv' := [(4, .int (x4 + 7)), (6, .int r249), (5, .int r246), (0, .ref b), (1, .ref x1), (2, .ref x2), (3, .ref x3)]) G 6 dL_law_2578 rfl rfl (by decide) ⟨fun _ => rfl, fun _ => rfl, fun _ => rfl, fun _ => rfl, fun _ => rfl, fun _ => rfl, fun _ => rfl, trivial⟩ rfl ?_
        refine r_goto G 23 dL_law_2581 (by decide) ?_
        refine r_weak (lv' := [(0, .ref b), (1, .ref x1), (2, .ref x2), (3, .ref x3), (4, .int (x4 + 7))]) [3, 4, 5, 6, 0] rfl ?_
        exact hk23 x1 x2 x3 (x4 + 7) w251 _ _ (by omega) (by omega) hyp
      · refine r_iconst (v := 0) G dL_law_1226 (by decide) ?_
        exact r_lwF hyp
  · refine r_iconst (v := 0) G dL_law_1209 (by decide) ?_
    exact r_lwF hyp
end
section
variable {Γ : xG} {p : Program} {l : Launch} {e : Env} {s : State} {m : MethodId} {below : List Frame} {meth : Method} {c : Code} {wF : xW} {b L : Nat} {xs : Nat → Int32}
set_option maxRecDepth 100000 in
set_option maxHeartbeats 4000000 in
theorem nd_L_law_J1231 {k23 : Nat → Nat → Nat → Int32 → xW → xO Int32} (G : xCx Γ p l s m #[Value.ref b] meth c RL cL_law 9 (some .boolean)) (hN : xNc s) (hX : xSc Γ b L xs s) (n : Nat) (hk23 : ∀ (x1 : Nat) (x2 : Nat) (x3 : Nat) (x4 : Int32) (w : xW) (cells slots : Nat), cells + n * 1 ≤ 601024 → slots + n * 6 ≤ 7293034 → k23 x1 x2 x3 x4 w = some (Sum.inl (1 : Int32), wF) → xAW Γ p l e room_1 s m #[Value.ref b] below meth c 9 (lw_Z below #[Value.ref b] s) w cells slots 23 [(0, .ref b), (1, .ref x1), (2, .ref x2), (3, .ref x3), (4, .int x4)] []) (x1 : Nat) (x2 : Nat) (x3 : Nat) (x4 : Int32) (w0 : xW) (cells slots : Nat) (hcl : cells + (n + 1) * 1 ≤ 601024) (hsl : slots + (n + 1) * 6 ≤ 7293034) (hyp : f_L_law_J1231 xs L k23 x1 x2 x3 x4 w0 = some (Sum.inl (1 : Int32), wF)) : xAW Γ p l e room_1 s m #[Value.ref b] below meth c 9 (lw_Z below #[Value.ref b] s) w0 cells slots 1231 [(0, .ref b), (1, .ref x1), (2, .ref x2), (3, .ref x3), (4, .int x4)] [] := by
  rw [f_L_law_J1231] at hyp
  refine r_aload_n G 1 dL_law_1231 rfl rfl ?_
  obtain ⟨o261, hyp⟩ := x_chk hyp
  refine r_callLV (ι := xI) (T := TX6) (N := 9) (ci := 6) (b := x1) (rest := []) (As := []) G tg_X6_visibleCount (fun r w' h => ct_X6_visibleCount (xhl G) _ _ r w' h) o261 hyp rfl ww_1070 ww_1072 ww_1071 (by decide) (by decide) (by first | exact ⟨Nat.le_of_ble_eq_true rfl, Nat.le_of_ble_eq_true rfl⟩ | (constructor <;> (show _ ≤ _; simp only [room_1]; omega))) rfl rfl (xroom (Nat.le_of_ble_eq_true rfl)) dL_law_1232 (push := (fun r260 => [.int r260])) (fun _ => rfl) (fun r260 w259 hyp => ?_)
  refine r_aload_n G 2 dL_law_1235 rfl rfl ?_
  obtain ⟨o264, hyp⟩ := x_chk hyp
  refine r_callLV (ι := xI) (T := TX7) (N := 22) (ci := 7) (b := x2) (rest := [.int r260]) (As := []) G tg_X7_visibleCount (fun r w' h => ct_X7_visibleCount (xhl G) _ _ r w' h) o264 hyp rfl ww_1073 ww_1075 ww_1074 (by decide) (by decide) (by first | exact ⟨Nat.le_of_ble_eq_true rfl, Nat.le_of_ble_eq_true rfl⟩ | (constructor <;> (show _ ≤ _; simp only [room_1]; omega))) rfl rfl (xroom (Nat.le_of_ble_eq_true rfl)) dL_law_1236 (push := (fun r263 => [.int r263, .int r260])) (fun _ => rfl) (fun r263 w262 hyp => ?_)
  refine r_icmp_eq G 2578 dL_law_1239 (by decide) hyp (fun c265 hyp => ?_) (fun c265 hyp => ?_)
  · refine r_iinc (v := (x4 + 7)) (lv' := [(4, .int (x4 + 7)), (0, .ref b), (1, .ref x1), (2, .ref x2), (3, .ref x3)]) G 4 dL_law_2578 rfl rfl (by decide) ⟨fun _ => rfl, fun _ => rfl, fun _ => rfl, fun _ => rfl, fun _ => rfl, trivial⟩ rfl ?_
    refine r_goto G 23 dL_law_2581 (by decide) ?_
    refine r_weak (lv' := [(0, .ref b), (1, .ref x1), (2, .ref x2), (3, .ref x3), (4, .int (x4 + 7))]) [1, 2, 3, 4, 0] rfl ?_
    exact hk23 x1 x2 x3 (x4 + 7) w262 _ _ (by omega) (by omega) hyp
  · refine r_iconst (v := 0) G dL_law_1242 (by decide) ?_
    exact r_lwF hyp
end
section
variable {Γ : xG} {p : Program} {l : Launch} {e : Env} {s : State} {m : MethodId} {below : List Frame} {meth : Method} {c : Code} {wF : xW} {b L : Nat} {xs : Nat → Int32}
set_option maxRecDepth 100000 in
set_option maxHeartbeats 4000000 in
theorem nd_L_law_J1244 {k23 : Nat → Nat → Nat → Int32 → xW → xO Int32} (G : xCx Γ p l s m #[Value.ref b] meth c RL cL_law 9 (some .boolean)) (hN : xNc s) (hX : xSc Γ b L xs s) (n : Nat) (hk23 : ∀ (x1 : Nat) (x2 : Nat) (x3 : Nat) (x4 : Int32) (w : xW) (cells slots : Nat), cells + n * 1 ≤ 601024 → slots + n * 6 ≤ 7293034 → k23 x1 x2 x3 x4 w = some (Sum.inl (1 : Int32), wF) → xAW Γ p l e room_1 s m #[Value.ref b] below meth c 9 (lw_Z below #[Value.ref b] s) w cells slots 23 [(0, .ref b), (1, .ref x1), (2, .ref x2), (3, .ref x3), (4, .int x4)] []) (x1 : Nat) (x2 : Nat) (x3 : Nat) (x4 : Int32) (w0 : xW) (cells slots : Nat) (hcl : cells + (n + 1) * 1 ≤ 601024) (hsl : slots + (n + 1) * 6 ≤ 7293034) (hyp : f_L_law_J1244 xs L k23 x1 x2 x3 x4 w0 = some (Sum.inl (1 : Int32), wF)) : xAW Γ p l e room_1 s m #[Value.ref b] below meth c 9 (lw_Z below #[Value.ref b] s) w0 cells slots 1244 [(0, .ref b), (1, .ref x1), (2, .ref x2), (3, .ref x3), (4, .int x4)] [] := by
  rw [f_L_law_J1244] at hyp
  refine r_aload_n G 1 dL_law_1244 rfl rfl ?_
  refine r_aload_n G 0 dL_law_1245 rfl rfl ?_
  refine r_iload G 4 dL_law_1246 rfl ?_
  refine r_iconst (v := 1) G dL_law_1248 (by decide) ?_
  refine r_iadd G dL_law_1249 ?_
  obtain ⟨h267, hyp⟩ := x_chk hyp
  refine r_sld G hX h267 dL_law_1250 ?_
  refine r_aload_n G 0 dL_law_1251 rfl rfl ?_
  refine r_iload G 4 dL_law_1252 rfl ?_
  refine r_iconst (v := 2) G dL_law_1254 (by decide) ?_
  refine r_iadd G dL_law_1255 ?_
  obtain ⟨h268, hyp⟩ := x_chk hyp
  refine r_sld G hX h268 dL_law_1256 ?_
  refine r_aload_n G 3 dL_law_1257 rfl rfl ?_
  refine r_callLS (ι := xI) (rest := []) (As := [va_rf (some x1), .int (xs ((x4 + 1)).toNatClampNeg), .int (xs ((x4 + 2)).toNatClampNeg), va_rf (some x3)]) G hN tgh_L_seen (fun r w' h => ct_L_seen (xhl G) _ _ _ _ _ r w' h) hyp ww_1076 ww_1077 (by decide) (by decide) (by first | exact ⟨Nat.le_of_ble_eq_true rfl, Nat.le_of_ble_eq_true rfl⟩ | (constructor <;> (show _ ≤ _; simp only [room_1]; omega))) rfl rfl (xroom (Nat.le_of_ble_eq_true rfl)) dL_law_1258 (push := (fun r270 => [.int r270])) (fun _ => rfl) (fun r270 w269 hyp => ?_)
  refine r_istore (lv' := [(5, .int r270), (0, .ref b), (1, .ref x1), (2, .ref x2), (3, .ref x3), (4, .int x4)]) G dL_law_1261 (by decide) ⟨fun _ => rfl, fun _ => rfl, fun _ => rfl, fun _ => rfl, fun _ => rfl, trivial⟩ rfl ?_
  refine r_aload_n G 3 dL_law_1263 rfl rfl ?_
  refine r_aload_n G 1 dL_law_1264 rfl rfl ?_
  refine r_iload G 5 dL_law_1265 rfl ?_
  refine r_iconst (v := 1) G dL_law_1267 (by decide) ?_
  refine r_iadd G dL_law_1268 ?_
  obtain ⟨h271, hyp⟩ := x_chk hyp
  refine r_sld G hX h271 dL_law_1269 ?_
  refine r_aload_n G 1 dL_law_1270 rfl rfl ?_
  refine r_iload G 5 dL_law_1271 rfl ?_
  refine r_iconst (v := 2) G dL_law_1273 (by decide) ?_
  refine r_iadd G dL_law_1274 ?_
  obtain ⟨h272, hyp⟩ := x_chk hyp
  refine r_sld G hX h272 dL_law_1275 ?_
  obtain ⟨o275, hyp⟩ := x_chk hyp
  refine r_callLV (ι := xI) (T := TX7) (N := 22) (ci := 7) (b := x2) (rest := []) (As := [.int (xs ((x4 + 1)).toNatClampNeg), .int (xs ((x4 + 2)).toNatClampNeg)]) G tg_X7_seen (fun r w' h => ct_X7_seen (xhl G) _ _ _ _ r w' h) o275 hyp rfl ww_1078 ww_787 ww_786 (by decide) (by decide) (by first | exact ⟨Nat.le_of_ble_eq_true rfl, Nat.le_of_ble_eq_true rfl⟩ | (constructor <;> (show _ ≤ _; simp only [room_1]; omega))) rfl rfl (xroom (Nat.le_of_ble_eq_true rfl)) dL_law_1276 (push := (fun r274 => [.int r274])) (fun _ => rfl) (fun r274 w273 hyp => ?_)
  refine r_istore (lv' := [(6, .int r274), (5, .int r270), (0, .ref b), (1, .ref x1), (2, .ref x2), (3, .ref x3), (4, .int x4)]) G dL_law_1279 (by decide) ⟨fun _ => rfl, fun _ => rfl, fun _ => rfl, fun _ => rfl, fun _ => rfl, fun _ => rfl, trivial⟩ rfl ?_
  refine r_aload_n G 4 dL_law_1281 rfl rfl ?_
  obtain ⟨o278, hyp⟩ := x_chk hyp
  refine r_callLV (ι := xI) (T := TX7) (N := 22) (ci := 7) (b := x2) (rest := []) (As := []) G tg_X7_thrown (fun r w' h => ct_X7_thrown (xhl G) _ _ r w' h) o278 hyp rfl ww_996 ww_998 ww_997 (by decide) (by decide) (by first | exact ⟨Nat.le_of_ble_eq_true rfl, Nat.le_of_ble_eq_true rfl⟩ | (constructor <;> (show _ ≤ _; simp only [room_1]; omega))) rfl rfl (xroom (Nat.le_of_ble_eq_true rfl)) dL_law_1282 (push := (fun r277 => [.int r277])) (fun _ => rfl) (fun r277 w276 hyp => ?_)
  refine r_iload G 1 dL_law_1285 rfl ?_
  refine r_icmp_eq G 1292 dL_law_1287 (by decide) hyp (fun c279 hyp => ?_) (fun c279 hyp => ?_)
  · refine r_iload G 1 dL_law_1292 rfl ?_
    refine r_if_ne G 1309 dL_law_1294 (by decide) hyp (fun c280 hyp => ?_) (fun c280 hyp => ?_)
    · refine r_goto G 2578 dL_law_1309 (by decide) ?_
      refine r_iinc (v := (x4 + 7)) (lv' := [(4, .int (x4 + 7)), (6, .int r274), (5, .int r270), (0, .ref b), (1, .ref x1), (2, .ref x2), (3, .ref x3)]) G 6 dL_law_2578 rfl rfl (by decide) ⟨fun _ => rfl, fun _ => rfl, fun _ => rfl, fun _ => rfl, fun _ => rfl, fun _ => rfl, fun _ => rfl, trivial⟩ rfl ?_
      refine r_goto G 23 dL_law_2581 (by decide) ?_
      refine r_weak (lv' := [(0, .ref b), (1, .ref x1), (2, .ref x2), (3, .ref x3), (4, .int (x4 + 7))]) [3, 4, 5, 6, 0] rfl ?_
      exact hk23 x1 x2 x3 (x4 + 7) w276 _ _ (by omega) (by omega) hyp
    · refine r_aload_n G 5 dL_law_1297 rfl rfl ?_
      refine r_iconst (v := 0) G dL_law_1298 (by decide) ?_
      obtain ⟨v281, hv281, hyp⟩ := x_some hyp
      refine r_lald G hv281 dL_law_1299 ?_
      refine r_iload G 0 dL_law_1300 rfl ?_
      refine r_i2l G dL_law_1302 ?_
      refine r_lcmp G dL_law_1303 ?_
      refine r_if_eq G 1309 dL_law_1304 (by decide) hyp (fun c282 hyp => ?_) (fun c282 hyp => ?_)
      · refine r_goto G 2578 dL_law_1309 (by decide) ?_
        refine r_iinc (v := (x4 + 7)) (lv' := [(4, .int (x4 + 7)), (6, .int r274), (5, .int r270), (0, .ref b), (1, .ref x1), (2, .ref x2), (3, .ref x3)]) G 6 dL_law_2578 rfl rfl (by decide) ⟨fun _ => rfl, fun _ => rfl, fun _ => rfl, fun _ => rfl, fun _ => rfl, fun _ => rfl, fun _ => rfl, trivial⟩ rfl ?_
        refine r_goto G 23 dL_law_2581 (by decide) ?_
        refine r_weak (lv' := [(0, .ref b), (1, .ref x1), (2, .ref x2), (3, .ref x3), (4, .int (x4 + 7))]) [3, 4, 5, 6, 0] rfl ?_
        exact hk23 x1 x2 x3 (x4 + 7) w276 _ _ (by omega) (by omega) hyp
      · refine r_iconst (v := 0) G dL_law_1307 (by decide) ?_
        exact r_lwF hyp
  · refine r_iconst (v := 0) G dL_law_1290 (by decide) ?_
    exact r_lwF hyp
end
