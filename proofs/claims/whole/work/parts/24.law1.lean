section
variable {Γ : xG} {p : Program} {l : Launch} {e : Env} {s : State} {m : MethodId} {below : List Frame} {meth : Method} {c : Code} {wF : xW} {b L : Nat} {xs : Nat → Int32}
set_option maxRecDepth 100000 in
set_option maxHeartbeats 4000000 in
theorem nd_L_law_J1312 {k23 : Nat → Nat → Nat → Int32 → xW → xO Int32} (G : xCx Γ p l s m #[Value.ref b] meth c RL cL_law 9 (some .boolean)) (hN : xNc s) (hX : xSc Γ b L xs s) (n : Nat) (hk23 : ∀ (x1 : Nat) (x2 : Nat) (x3 : Nat) (x4 : Int32) (w : xW) (cells slots : Nat), cells + n * 1 ≤ 601024 → slots + n * 6 ≤ 7293034 → k23 x1 x2 x3 x4 w = some (Sum.inl (1 : Int32), wF) → xAW Γ p l e room_1 s m #[Value.ref b] below meth c 9 (lw_Z below #[Value.ref b] s) w cells slots 23 [(0, .ref b), (1, .ref x1), (2, .ref x2), (3, .ref x3), (4, .int x4)] []) (x1 : Nat) (x2 : Nat) (x3 : Nat) (x4 : Int32) (w0 : xW) (cells slots : Nat) (hcl : cells + (n + 1) * 1 ≤ 601024) (hsl : slots + (n + 1) * 6 ≤ 7293034) (hyp : f_L_law_J1312 xs L k23 x1 x2 x3 x4 w0 = some (Sum.inl (1 : Int32), wF)) : xAW Γ p l e room_1 s m #[Value.ref b] below meth c 9 (lw_Z below #[Value.ref b] s) w0 cells slots 1312 [(0, .ref b), (1, .ref x1), (2, .ref x2), (3, .ref x3), (4, .int x4)] [] := by
  rw [f_L_law_J1312] at hyp
  refine r_aload_n G 1 dL_law_1312 rfl rfl ?_
  refine r_aload_n G 0 dL_law_1313 rfl rfl ?_
  refine r_iload G 4 dL_law_1314 rfl ?_
  refine r_iconst (v := 1) G dL_law_1316 (by decide) ?_
  refine r_iadd G dL_law_1317 ?_
  obtain ⟨h284, hyp⟩ := x_chk hyp
  refine r_sld G hX h284 dL_law_1318 ?_
  refine r_aload_n G 0 dL_law_1319 rfl rfl ?_
  refine r_iload G 4 dL_law_1320 rfl ?_
  refine r_iconst (v := 2) G dL_law_1322 (by decide) ?_
  refine r_iadd G dL_law_1323 ?_
  obtain ⟨h285, hyp⟩ := x_chk hyp
  refine r_sld G hX h285 dL_law_1324 ?_
  refine r_aload_n G 3 dL_law_1325 rfl rfl ?_
  refine r_callLS (ι := xI) (rest := []) (As := [va_rf (some x1), .int (xs ((x4 + 1)).toNatClampNeg), .int (xs ((x4 + 2)).toNatClampNeg), va_rf (some x3)]) G hN tgh_L_seenFromTop (fun r w' h => ct_L_seenFromTop (xhl G) _ _ _ _ _ r w' h) hyp ww_1079 ww_1080 (by decide) (by decide) (by first | exact ⟨Nat.le_of_ble_eq_true rfl, Nat.le_of_ble_eq_true rfl⟩ | (constructor <;> (show _ ≤ _; simp only [room_1]; omega))) rfl rfl (xroom (Nat.le_of_ble_eq_true rfl)) dL_law_1326 (push := (fun r287 => [.int r287])) (fun _ => rfl) (fun r287 w286 hyp => ?_)
  refine r_istore (lv' := [(5, .int r287), (0, .ref b), (1, .ref x1), (2, .ref x2), (3, .ref x3), (4, .int x4)]) G dL_law_1329 (by decide) ⟨fun _ => rfl, fun _ => rfl, fun _ => rfl, fun _ => rfl, fun _ => rfl, trivial⟩ rfl ?_
  refine r_aload_n G 3 dL_law_1331 rfl rfl ?_
  refine r_aload_n G 1 dL_law_1332 rfl rfl ?_
  refine r_iload G 5 dL_law_1333 rfl ?_
  refine r_iconst (v := 1) G dL_law_1335 (by decide) ?_
  refine r_iadd G dL_law_1336 ?_
  obtain ⟨h288, hyp⟩ := x_chk hyp
  refine r_sld G hX h288 dL_law_1337 ?_
  refine r_aload_n G 1 dL_law_1338 rfl rfl ?_
  refine r_iload G 5 dL_law_1339 rfl ?_
  refine r_iconst (v := 2) G dL_law_1341 (by decide) ?_
  refine r_iadd G dL_law_1342 ?_
  obtain ⟨h289, hyp⟩ := x_chk hyp
  refine r_sld G hX h289 dL_law_1343 ?_
  obtain ⟨o292, hyp⟩ := x_chk hyp
  refine r_callLV (ι := xI) (T := TX7) (N := 22) (ci := 7) (b := x2) (rest := []) (As := [.int (xs ((x4 + 1)).toNatClampNeg), .int (xs ((x4 + 2)).toNatClampNeg)]) G tg_X7_seenFromTop (fun r w' h => ct_X7_seenFromTop (xhl G) _ _ _ _ r w' h) o292 hyp rfl ww_1081 ww_1083 ww_1082 (by decide) (by decide) (by first | exact ⟨Nat.le_of_ble_eq_true rfl, Nat.le_of_ble_eq_true rfl⟩ | (constructor <;> (show _ ≤ _; simp only [room_1]; omega))) rfl rfl (xroom (Nat.le_of_ble_eq_true rfl)) dL_law_1344 (push := (fun r291 => [.int r291])) (fun _ => rfl) (fun r291 w290 hyp => ?_)
  refine r_istore (lv' := [(6, .int r291), (5, .int r287), (0, .ref b), (1, .ref x1), (2, .ref x2), (3, .ref x3), (4, .int x4)]) G dL_law_1347 (by decide) ⟨fun _ => rfl, fun _ => rfl, fun _ => rfl, fun _ => rfl, fun _ => rfl, fun _ => rfl, trivial⟩ rfl ?_
  refine r_aload_n G 4 dL_law_1349 rfl rfl ?_
  obtain ⟨o295, hyp⟩ := x_chk hyp
  refine r_callLV (ι := xI) (T := TX7) (N := 22) (ci := 7) (b := x2) (rest := []) (As := []) G tg_X7_thrown (fun r w' h => ct_X7_thrown (xhl G) _ _ r w' h) o295 hyp rfl ww_996 ww_998 ww_997 (by decide) (by decide) (by first | exact ⟨Nat.le_of_ble_eq_true rfl, Nat.le_of_ble_eq_true rfl⟩ | (constructor <;> (show _ ≤ _; simp only [room_1]; omega))) rfl rfl (xroom (Nat.le_of_ble_eq_true rfl)) dL_law_1350 (push := (fun r294 => [.int r294])) (fun _ => rfl) (fun r294 w293 hyp => ?_)
  refine r_iload G 1 dL_law_1353 rfl ?_
  refine r_icmp_eq G 1360 dL_law_1355 (by decide) hyp (fun c296 hyp => ?_) (fun c296 hyp => ?_)
  · refine r_iload G 1 dL_law_1360 rfl ?_
    refine r_if_ne G 1377 dL_law_1362 (by decide) hyp (fun c297 hyp => ?_) (fun c297 hyp => ?_)
    · refine r_goto G 2578 dL_law_1377 (by decide) ?_
      refine r_iinc (v := (x4 + 7)) (lv' := [(4, .int (x4 + 7)), (6, .int r291), (5, .int r287), (0, .ref b), (1, .ref x1), (2, .ref x2), (3, .ref x3)]) G 6 dL_law_2578 rfl rfl (by decide) ⟨fun _ => rfl, fun _ => rfl, fun _ => rfl, fun _ => rfl, fun _ => rfl, fun _ => rfl, fun _ => rfl, trivial⟩ rfl ?_
      refine r_goto G 23 dL_law_2581 (by decide) ?_
      refine r_weak (lv' := [(0, .ref b), (1, .ref x1), (2, .ref x2), (3, .ref x3), (4, .int (x4 + 7))]) [3, 4, 5, 6, 0] rfl ?_
      exact hk23 x1 x2 x3 (x4 + 7) w293 _ _ (by omega) (by omega) hyp
    · refine r_aload_n G 5 dL_law_1365 rfl rfl ?_
      refine r_iconst (v := 0) G dL_law_1366 (by decide) ?_
      obtain ⟨v298, hv298, hyp⟩ := x_some hyp
      refine r_lald G hv298 dL_law_1367 ?_
      refine r_iload G 0 dL_law_1368 rfl ?_
      refine r_i2l G dL_law_1370 ?_
      refine r_lcmp G dL_law_1371 ?_
      refine r_if_eq G 1377 dL_law_1372 (by decide) hyp (fun c299 hyp => ?_) (fun c299 hyp => ?_)
      · refine r_goto G 2578 dL_law_1377 (by decide) ?_
        refine r_iinc (v := (x4 + 7)) (lv' := [(4, .int (x4 + 7)), (6, .int r291), (5, .int r287), (0, .ref b), (1, .ref x1), (2, .ref x2), (3, .ref x3)]) G 6 dL_law_2578 rfl rfl (by decide) ⟨fun _ => rfl, fun _ => rfl, fun _ => rfl, fun _ => rfl, fun _ => rfl, fun _ => rfl, fun _ => rfl, trivial⟩ rfl ?_
        refine r_goto G 23 dL_law_2581 (by decide) ?_
        refine r_weak (lv' := [(0, .ref b), (1, .ref x1), (2, .ref x2), (3, .ref x3), (4, .int (x4 + 7))]) [3, 4, 5, 6, 0] rfl ?_
        exact hk23 x1 x2 x3 (x4 + 7) w293 _ _ (by omega) (by omega) hyp
      · refine r_iconst (v := 0) G dL_law_1375 (by decide) ?_
        exact r_lwF hyp
  · refine r_iconst (v := 0) G dL_law_1358 (by decide) ?_
    exact r_lwF hyp
end
section
variable {Γ : xG} {p : Program} {l : Launch} {e : Env} {s : State} {m : MethodId} {below : List Frame} {meth : Method} {c : Code} {wF : xW} {b L : Nat} {xs : Nat → Int32}
set_option maxRecDepth 100000 in
set_option maxHeartbeats 4000000 in
theorem nd_L_law_J1380 {k23 : Nat → Nat → Nat → Int32 → xW → xO Int32} (G : xCx Γ p l s m #[Value.ref b] meth c RL cL_law 9 (some .boolean)) (hN : xNc s) (hX : xSc Γ b L xs s) (n : Nat) (hk23 : ∀ (x1 : Nat) (x2 : Nat) (x3 : Nat) (x4 : Int32) (w : xW) (cells slots : Nat), cells + n * 1 ≤ 601024 → slots + n * 6 ≤ 7293034 → k23 x1 x2 x3 x4 w = some (Sum.inl (1 : Int32), wF) → xAW Γ p l e room_1 s m #[Value.ref b] below meth c 9 (lw_Z below #[Value.ref b] s) w cells slots 23 [(0, .ref b), (1, .ref x1), (2, .ref x2), (3, .ref x3), (4, .int x4)] []) (x1 : Nat) (x2 : Nat) (x3 : Nat) (x4 : Int32) (w0 : xW) (cells slots : Nat) (hcl : cells + (n + 1) * 1 ≤ 601024) (hsl : slots + (n + 1) * 6 ≤ 7293034) (hyp : f_L_law_J1380 xs L k23 x1 x2 x3 x4 w0 = some (Sum.inl (1 : Int32), wF)) : xAW Γ p l e room_1 s m #[Value.ref b] below meth c 9 (lw_Z below #[Value.ref b] s) w0 cells slots 1380 [(0, .ref b), (1, .ref x1), (2, .ref x2), (3, .ref x3), (4, .int x4)] [] := by
  rw [f_L_law_J1380] at hyp
  refine r_aload_n G 1 dL_law_1380 rfl rfl ?_
  refine r_aload_n G 0 dL_law_1381 rfl rfl ?_
  refine r_iload G 4 dL_law_1382 rfl ?_
  refine r_iconst (v := 1) G dL_law_1384 (by decide) ?_
  refine r_iadd G dL_law_1385 ?_
  obtain ⟨h301, hyp⟩ := x_chk hyp
  refine r_sld G hX h301 dL_law_1386 ?_
  refine r_aload_n G 0 dL_law_1387 rfl rfl ?_
  refine r_iload G 4 dL_law_1388 rfl ?_
  refine r_iconst (v := 2) G dL_law_1390 (by decide) ?_
  refine r_iadd G dL_law_1391 ?_
  obtain ⟨h302, hyp⟩ := x_chk hyp
  refine r_sld G hX h302 dL_law_1392 ?_
  refine r_aload_n G 3 dL_law_1393 rfl rfl ?_
  refine r_callLS (ι := xI) (rest := []) (As := [va_rf (some x1), .int (xs ((x4 + 1)).toNatClampNeg), .int (xs ((x4 + 2)).toNatClampNeg), va_rf (some x3)]) G hN tgh_L_topLayer (fun r w' h => ct_L_topLayer (xhl G) _ _ _ _ _ r w' h) hyp ww_1084 ww_1085 (by decide) (by decide) (by first | exact ⟨Nat.le_of_ble_eq_true rfl, Nat.le_of_ble_eq_true rfl⟩ | (constructor <;> (show _ ≤ _; simp only [room_1]; omega))) rfl rfl (xroom (Nat.le_of_ble_eq_true rfl)) dL_law_1394 (push := (fun r304 => [.int r304])) (fun _ => rfl) (fun r304 w303 hyp => ?_)
  refine r_istore (lv' := [(5, .int r304), (0, .ref b), (1, .ref x1), (2, .ref x2), (3, .ref x3), (4, .int x4)]) G dL_law_1397 (by decide) ⟨fun _ => rfl, fun _ => rfl, fun _ => rfl, fun _ => rfl, fun _ => rfl, trivial⟩ rfl ?_
  refine r_aload_n G 3 dL_law_1399 rfl rfl ?_
  refine r_aload_n G 1 dL_law_1400 rfl rfl ?_
  refine r_iload G 5 dL_law_1401 rfl ?_
  refine r_iconst (v := 1) G dL_law_1403 (by decide) ?_
  refine r_iadd G dL_law_1404 ?_
  obtain ⟨h305, hyp⟩ := x_chk hyp
  refine r_sld G hX h305 dL_law_1405 ?_
  refine r_aload_n G 1 dL_law_1406 rfl rfl ?_
  refine r_iload G 5 dL_law_1407 rfl ?_
  refine r_iconst (v := 2) G dL_law_1409 (by decide) ?_
  refine r_iadd G dL_law_1410 ?_
  obtain ⟨h306, hyp⟩ := x_chk hyp
  refine r_sld G hX h306 dL_law_1411 ?_
  obtain ⟨o309, hyp⟩ := x_chk hyp
  refine r_callLV (ι := xI) (T := TX7) (N := 22) (ci := 7) (b := x2) (rest := []) (As := [.int (xs ((x4 + 1)).toNatClampNeg), .int (xs ((x4 + 2)).toNatClampNeg)]) G tg_X7_topLayer (fun r w' h => ct_X7_topLayer (xhl G) _ _ _ _ r w' h) o309 hyp rfl ww_1086 ww_1088 ww_1087 (by decide) (by decide) (by first | exact ⟨Nat.le_of_ble_eq_true rfl, Nat.le_of_ble_eq_true rfl⟩ | (constructor <;> (show _ ≤ _; simp only [room_1]; omega))) rfl rfl (xroom (Nat.le_of_ble_eq_true rfl)) dL_law_1412 (push := (fun r308 => [.int r308])) (fun _ => rfl) (fun r308 w307 hyp => ?_)
  refine r_istore (lv' := [(6, .int r308), (5, .int r304), (0, .ref b), (1, .ref x1), (2, .ref x2), (3, .ref x3), (4, .int x4)]) G dL_law_1415 (by decide) ⟨fun _ => rfl, fun _ => rfl, fun _ => rfl, fun _ => rfl, fun _ => rfl, fun _ => rfl, trivial⟩ rfl ?_
  refine r_aload_n G 4 dL_law_1417 rfl rfl ?_
  obtain ⟨o312, hyp⟩ := x_chk hyp
  refine r_callLV (ι := xI) (T := TX7) (N := 22) (ci := 7) (b := x2) (rest := []) (As := []) G tg_X7_thrown (fun r w' h => ct_X7_thrown (xhl G) _ _ r w' h) o312 hyp rfl ww_996 ww_998 ww_997 (by decide) (by decide) (by first | exact ⟨Nat.le_of_ble_eq_true rfl, Nat.le_of_ble_eq_true rfl⟩ | (constructor <;> (show _ ≤ _; simp only [room_1]; omega))) rfl rfl (xroom (Nat.le_of_ble_eq_true rfl)) dL_law_1418 (push := (fun r311 => [.int r311])) (fun _ => rfl) (fun r311 w310 hyp => ?_)
  refine r_iload G 1 dL_law_1421 rfl ?_
  refine r_icmp_eq G 1428 dL_law_1423 (by decide) hyp (fun c313 hyp => ?_) (fun c313 hyp => ?_)
  · refine r_iload G 1 dL_law_1428 rfl ?_
    refine r_if_ne G 1445 dL_law_1430 (by decide) hyp (fun c314 hyp => ?_) (fun c314 hyp => ?_)
    · refine r_goto G 2578 dL_law_1445 (by decide) ?_
      refine r_iinc (v := (x4 + 7)) (lv' := [(4, .int (x4 + 7)), (6, .int r308), (5, .int r304), (0, .ref b), (1, .ref x1), (2, .ref x2), (3, .ref x3)]) G 6 dL_law_2578 rfl rfl (by decide) ⟨fun _ => rfl, fun _ => rfl, fun _ => rfl, fun _ => rfl, fun _ => rfl, fun _ => rfl, fun _ => rfl, trivial⟩ rfl ?_
      refine r_goto G 23 dL_law_2581 (by decide) ?_
      refine r_weak (lv' := [(0, .ref b), (1, .ref x1), (2, .ref x2), (3, .ref x3), (4, .int (x4 + 7))]) [3, 4, 5, 6, 0] rfl ?_
      exact hk23 x1 x2 x3 (x4 + 7) w310 _ _ (by omega) (by omega) hyp
    · refine r_aload_n G 5 dL_law_1433 rfl rfl ?_
      refine r_iconst (v := 0) G dL_law_1434 (by decide) ?_
      obtain ⟨v315, hv315, hyp⟩ := x_some hyp
      refine r_lald G hv315 dL_law_1435 ?_
      refine r_iload G 0 dL_law_1436 rfl ?_
      refine r_i2l G dL_law_1438 ?_
      refine r_lcmp G dL_law_1439 ?_
      refine r_if_eq G 1445 dL_law_1440 (by decide) hyp (fun c316 hyp => ?_) (fun c316 hyp => ?_)
      · refine r_goto G 2578 dL_law_1445 (by decide) ?_
        refine r_iinc (v := (x4 + 7)) (lv' := [(4, .int (x4 + 7)), (6, .int r308), (5, .int r304), (0, .ref b), (1, .ref x1), (2, .ref x2), (3, .ref x3)]) G 6 dL_law_2578 rfl rfl (by decide) ⟨fun _ => rfl, fun _ => rfl, fun _ => rfl, fun _ => rfl, fun _ => rfl, fun _ => rfl, fun _ => rfl, trivial⟩ rfl ?_
        refine r_goto G 23 dL_law_2581 (by decide) ?_
        refine r_weak (lv' := [(0, .ref b), (1, .ref x1), (2, .ref x2), (3, .ref x3), (4, .int (x4 + 7))]) [3, 4, 5, 6, 0] rfl ?_
        exact hk23 x1 x2 x3 (x4 + 7) w310 _ _ (by omega) (by omega) hyp
      · refine r_iconst (v := 0) G dL_law_1443 (by decide) ?_
        exact r_lwF hyp
  · refine r_iconst (v := 0) G dL_law_1426 (by decide) ?_
    exact r_lwF hyp
end
section
variable {Γ : xG} {p : Program} {l : Launch} {e : Env} {s : State} {m : MethodId} {below : List Frame} {meth : Method} {c : Code} {wF : xW} {b L : Nat} {xs : Nat → Int32}
set_option maxRecDepth 100000 in
set_option maxHeartbeats 4000000 in
theorem nd_L_law_J1448 {k23 : Nat → Nat → Nat → Int32 → xW → xO Int32} (G : xCx Γ p l s m #[Value.ref b] meth c RL cL_law 9 (some .boolean)) (hN : xNc s) (hX : xSc Γ b L xs s) (n : Nat) (hk23 : ∀ (x1 : Nat) (x2 : Nat) (x3 : Nat) (x4 : Int32) (w : xW) (cells slots : Nat), cells + n * 1 ≤ 601024 → slots + n * 6 ≤ 7293034 → k23 x1 x2 x3 x4 w = some (Sum.inl (1 : Int32), wF) → xAW Γ p l e room_1 s m #[Value.ref b] below meth c 9 (lw_Z below #[Value.ref b] s) w cells slots 23 [(0, .ref b), (1, .ref x1), (2, .ref x2), (3, .ref x3), (4, .int x4)] []) (x1 : Nat) (x2 : Nat) (x3 : Nat) (x4 : Int32) (w0 : xW) (cells slots : Nat) (hcl : cells + (n + 1) * 1 ≤ 601024) (hsl : slots + (n + 1) * 6 ≤ 7293034) (hyp : f_L_law_J1448 xs L k23 x1 x2 x3 x4 w0 = some (Sum.inl (1 : Int32), wF)) : xAW Γ p l e room_1 s m #[Value.ref b] below meth c 9 (lw_Z below #[Value.ref b] s) w0 cells slots 1448 [(0, .ref b), (1, .ref x1), (2, .ref x2), (3, .ref x3), (4, .int x4)] [] := by
  rw [f_L_law_J1448] at hyp
  refine r_aload_n G 1 dL_law_1448 rfl rfl ?_
  refine r_aload_n G 0 dL_law_1449 rfl rfl ?_
  refine r_iload G 4 dL_law_1450 rfl ?_
  refine r_iconst (v := 1) G dL_law_1452 (by decide) ?_
  refine r_iadd G dL_law_1453 ?_
  obtain ⟨h318, hyp⟩ := x_chk hyp
  refine r_sld G hX h318 dL_law_1454 ?_
  refine r_aload_n G 0 dL_law_1455 rfl rfl ?_
  refine r_iload G 4 dL_law_1456 rfl ?_
  refine r_iconst (v := 2) G dL_law_1458 (by decide) ?_
  refine r_iadd G dL_law_1459 ?_
  obtain ⟨h319, hyp⟩ := x_chk hyp
  refine r_sld G hX h319 dL_law_1460 ?_
  refine r_aload_n G 3 dL_law_1461 rfl rfl ?_
  refine r_callLS (ι := xI) (rest := []) (As := [va_rf (some x1), .int (xs ((x4 + 1)).toNatClampNeg), .int (xs ((x4 + 2)).toNatClampNeg), va_rf (some x3)]) G hN tgh_L_coveringLayers (fun r w' h => ct_L_coveringLayers (xhl G) _ _ _ _ _ r w' h) hyp ww_1089 ww_1090 (by decide) (by decide) (by first | exact ⟨Nat.le_of_ble_eq_true rfl, Nat.le_of_ble_eq_true rfl⟩ | (constructor <;> (show _ ≤ _; simp only [room_1]; omega))) rfl rfl (xroom (Nat.le_of_ble_eq_true rfl)) dL_law_1462 (push := (fun r321 => [.int r321])) (fun _ => rfl) (fun r321 w320 hyp => ?_)
  refine r_istore (lv' := [(5, .int r321), (0, .ref b), (1, .ref x1), (2, .ref x2), (3, .ref x3), (4, .int x4)]) G dL_law_1465 (by decide) ⟨fun _ => rfl, fun _ => rfl, fun _ => rfl, fun _ => rfl, fun _ => rfl, trivial⟩ rfl ?_
  refine r_aload_n G 3 dL_law_1467 rfl rfl ?_
  refine r_aload_n G 1 dL_law_1468 rfl rfl ?_
  refine r_iload G 5 dL_law_1469 rfl ?_
  refine r_iconst (v := 1) G dL_law_1471 (by decide) ?_
  refine r_iadd G dL_law_1472 ?_
  obtain ⟨h322, hyp⟩ := x_chk hyp
  refine r_sld G hX h322 dL_law_1473 ?_
  refine r_aload_n G 1 dL_law_1474 rfl rfl ?_
  refine r_iload G 5 dL_law_1475 rfl ?_
  refine r_iconst (v := 2) G dL_law_1477 (by decide) ?_
  refine r_iadd G dL_law_1478 ?_
  obtain ⟨h323, hyp⟩ := x_chk hyp
  refine r_sld G hX h323 dL_law_1479 ?_
  obtain ⟨o326, hyp⟩ := x_chk hyp
  refine r_callLV (ι := xI) (T := TX7) (N := 22) (ci := 7) (b := x2) (rest := []) (As := [.int (xs ((x4 + 1)).toNatClampNeg), .int (xs ((x4 + 2)).toNatClampNeg)]) G tg_X7_coveringLayers (fun r w' h => ct_X7_coveringLayers (xhl G) _ _ _ _ r w' h) o326 hyp rfl ww_1091 ww_1093 ww_1092 (by decide) (by decide) (by first | exact ⟨Nat.le_of_ble_eq_true rfl, Nat.le_of_ble_eq_true rfl⟩ | (constructor <;> (show _ ≤ _; simp only [room_1]; omega))) rfl rfl (xroom (Nat.le_of_ble_eq_true rfl)) dL_law_1480 (push := (fun r325 => [.int r325])) (fun _ => rfl) (fun r325 w324 hyp => ?_)
  refine r_istore (lv' := [(6, .int r325), (5, .int r321), (0, .ref b), (1, .ref x1), (2, .ref x2), (3, .ref x3), (4, .int x4)]) G dL_law_1483 (by decide) ⟨fun _ => rfl, fun _ => rfl, fun _ => rfl, fun _ => rfl, fun _ => rfl, fun _ => rfl, trivial⟩ rfl ?_
  refine r_aload_n G 4 dL_law_1485 rfl rfl ?_
  obtain ⟨o329, hyp⟩ := x_chk hyp
  refine r_callLV (ι := xI) (T := TX7) (N := 22) (ci := 7) (b := x2) (rest := []) (As := []) G tg_X7_thrown (fun r w' h => ct_X7_thrown (xhl G) _ _ r w' h) o329 hyp rfl ww_996 ww_998 ww_997 (by decide) (by decide) (by first | exact ⟨Nat.le_of_ble_eq_true rfl, Nat.le_of_ble_eq_true rfl⟩ | (constructor <;> (show _ ≤ _; simp only [room_1]; omega))) rfl rfl (xroom (Nat.le_of_ble_eq_true rfl)) dL_law_1486 (push := (fun r328 => [.int r328])) (fun _ => rfl) (fun r328 w327 hyp => ?_)
  refine r_iload G 1 dL_law_1489 rfl ?_
  refine r_icmp_eq G 1496 dL_law_1491 (by decide) hyp (fun c330 hyp => ?_) (fun c330 hyp => ?_)
  · refine r_iload G 1 dL_law_1496 rfl ?_
    refine r_if_ne G 1513 dL_law_1498 (by decide) hyp (fun c331 hyp => ?_) (fun c331 hyp => ?_)
    · refine r_goto G 2578 dL_law_1513 (by decide) ?_
      refine r_iinc (v := (x4 + 7)) (lv' := [(4, .int (x4 + 7)), (6, .int r325), (5, .int r321), (0, .ref b), (1, .ref x1), (2, .ref x2), (3, .ref x3)]) G 6 dL_law_2578 rfl rfl (by decide) ⟨fun _ => rfl, fun _ => rfl, fun _ => rfl, fun _ => rfl, fun _ => rfl, fun _ => rfl, fun _ => rfl, trivial⟩ rfl ?_
      refine r_goto G 23 dL_law_2581 (by decide) ?_
      refine r_weak (lv' := [(0, .ref b), (1, .ref x1), (2, .ref x2), (3, .ref x3), (4, .int (x4 + 7))]) [3, 4, 5, 6, 0] rfl ?_
      exact hk23 x1 x2 x3 (x4 + 7) w327 _ _ (by omega) (by omega) hyp
    · refine r_aload_n G 5 dL_law_1501 rfl rfl ?_
      refine r_iconst (v := 0) G dL_law_1502 (by decide) ?_
      obtain ⟨v332, hv332, hyp⟩ := x_some hyp
      refine r_lald G hv332 dL_law_1503 ?_
      refine r_iload G 0 dL_law_1504 rfl ?_
      refine r_i2l G dL_law_1506 ?_
      refine r_lcmp G dL_law_1507 ?_
      refine r_if_eq G 1513 dL_law_1508 (by decide) hyp (fun c333 hyp => ?_) (fun c333 hyp => ?_)
      · refine r_goto G 2578 dL_law_1513 (by decide) ?_
        refine r_iinc (v := (x4 + 7)) (lv' := [(4, .int (x4 + 7)), (6, .int r325), (5, .int r321), (0, .ref b), (1, .ref x1), (2, .ref x2), (3, .ref x3)]) G 6 dL_law_2578 rfl rfl (by decide) ⟨fun _ => rfl, fun _ => rfl, fun _ => rfl, fun _ => rfl, fun _ => rfl, fun _ => rfl, fun _ => rfl, trivial⟩ rfl ?_
        refine r_goto G 23 dL_law_2581 (by decide) ?_
        refine r_weak (lv' := [(0, .ref b), (1, .ref x1), (2, .ref x2), (3, .ref x3), (4, .int (x4 + 7))]) [3, 4, 5, 6, 0] rfl ?_
        exact hk23 x1 x2 x3 (x4 + 7) w327 _ _ (by omega) (by omega) hyp
      · refine r_iconst (v := 0) G dL_law_1511 (by decide) ?_
        exact r_lwF hyp
  · refine r_iconst (v := 0) G dL_law_1494 (by decide) ?_
    exact r_lwF hyp
end
section
variable {Γ : xG} {p : Program} {l : Launch} {e : Env} {s : State} {m : MethodId} {below : List Frame} {meth : Method} {c : Code} {wF : xW} {b L : Nat} {xs : Nat → Int32}
set_option maxRecDepth 100000 in
set_option maxHeartbeats 4000000 in
theorem nd_L_law_J1516 {k23 : Nat → Nat → Nat → Int32 → xW → xO Int32} (G : xCx Γ p l s m #[Value.ref b] meth c RL cL_law 9 (some .boolean)) (hN : xNc s) (hX : xSc Γ b L xs s) (n : Nat) (hk23 : ∀ (x1 : Nat) (x2 : Nat) (x3 : Nat) (x4 : Int32) (w : xW) (cells slots : Nat), cells + n * 1 ≤ 601024 → slots + n * 6 ≤ 7293034 → k23 x1 x2 x3 x4 w = some (Sum.inl (1 : Int32), wF) → xAW Γ p l e room_1 s m #[Value.ref b] below meth c 9 (lw_Z below #[Value.ref b] s) w cells slots 23 [(0, .ref b), (1, .ref x1), (2, .ref x2), (3, .ref x3), (4, .int x4)] []) (x1 : Nat) (x2 : Nat) (x3 : Nat) (x4 : Int32) (w0 : xW) (cells slots : Nat) (hcl : cells + (n + 1) * 1 ≤ 601024) (hsl : slots + (n + 1) * 6 ≤ 7293034) (hyp : f_L_law_J1516 xs L k23 x1 x2 x3 x4 w0 = some (Sum.inl (1 : Int32), wF)) : xAW Γ p l e room_1 s m #[Value.ref b] below meth c 9 (lw_Z below #[Value.ref b] s) w0 cells slots 1516 [(0, .ref b), (1, .ref x1), (2, .ref x2), (3, .ref x3), (4, .int x4)] [] := by
  rw [f_L_law_J1516] at hyp
  refine r_aload_n G 1 dL_law_1516 rfl rfl ?_
  refine r_aload_n G 0 dL_law_1517 rfl rfl ?_
  refine r_iload G 4 dL_law_1518 rfl ?_
  refine r_iconst (v := 1) G dL_law_1520 (by decide) ?_
  refine r_iadd G dL_law_1521 ?_
  obtain ⟨h335, hyp⟩ := x_chk hyp
  refine r_sld G hX h335 dL_law_1522 ?_
  refine r_aload_n G 3 dL_law_1523 rfl rfl ?_
  refine r_callLS (ι := xI) (rest := []) (As := [va_rf (some x1), .int (xs ((x4 + 1)).toNatClampNeg), va_rf (some x3)]) G hN tgh_L_cellsWithTone (fun r w' h => ct_L_cellsWithTone (xhl G) _ _ _ _ r w' h) hyp ww_1094 ww_1095 (by decide) (by decide) (by first | exact ⟨Nat.le_of_ble_eq_true rfl, Nat.le_of_ble_eq_true rfl⟩ | (constructor <;> (show _ ≤ _; simp only [room_1]; omega))) rfl rfl (xroom (Nat.le_of_ble_eq_true rfl)) dL_law_1524 (push := (fun r337 => [.int r337])) (fun _ => rfl) (fun r337 w336 hyp => ?_)
  refine r_istore (lv' := [(5, .int r337), (0, .ref b), (1, .ref x1), (2, .ref x2), (3, .ref x3), (4, .int x4)]) G dL_law_1527 (by decide) ⟨fun _ => rfl, fun _ => rfl, fun _ => rfl, fun _ => rfl, fun _ => rfl, trivial⟩ rfl ?_
  refine r_aload_n G 3 dL_law_1529 rfl rfl ?_
  refine r_aload_n G 1 dL_law_1530 rfl rfl ?_
  refine r_iload G 5 dL_law_1531 rfl ?_
  refine r_iconst (v := 1) G dL_law_1533 (by decide) ?_
  refine r_iadd G dL_law_1534 ?_
  obtain ⟨h338, hyp⟩ := x_chk hyp
  refine r_sld G hX h338 dL_law_1535 ?_
  obtain ⟨o341, hyp⟩ := x_chk hyp
  refine r_callLV (ι := xI) (T := TX7) (N := 22) (ci := 7) (b := x2) (rest := []) (As := [.int (xs ((x4 + 1)).toNatClampNeg)]) G tg_X7_cellsWithTone (fun r w' h => ct_X7_cellsWithTone (xhl G) _ _ _ r w' h) o341 hyp rfl ww_1096 ww_1098 ww_1097 (by decide) (by decide) (by first | exact ⟨Nat.le_of_ble_eq_true rfl, Nat.le_of_ble_eq_true rfl⟩ | (constructor <;> (show _ ≤ _; simp only [room_1]; omega))) rfl rfl (xroom (Nat.le_of_ble_eq_true rfl)) dL_law_1536 (push := (fun r340 => [.int r340])) (fun _ => rfl) (fun r340 w339 hyp => ?_)
  refine r_istore (lv' := [(6, .int r340), (5, .int r337), (0, .ref b), (1, .ref x1), (2, .ref x2), (3, .ref x3), (4, .int x4)]) G dL_law_1539 (by decide) ⟨fun _ => rfl, fun _ => rfl, fun _ => rfl, fun _ => rfl, fun _ => rfl, fun _ => rfl, trivial⟩ rfl ?_
  refine r_aload_n G 4 dL_law_1541 rfl rfl ?_
  obtain ⟨o344, hyp⟩ := x_chk hyp
  refine r_callLV (ι := xI) (T := TX7) (N := 22) (ci := 7) (b := x2) (rest := []) (As := []) G tg_X7_thrown (fun r w' h => ct_X7_thrown (xhl G) _ _ r w' h) o344 hyp rfl ww_996 ww_998 ww_997 (by decide) (by decide) (by first | exact ⟨Nat.le_of_ble_eq_true rfl, Nat.le_of_ble_eq_true rfl⟩ | (constructor <;> (show _ ≤ _; simp only [room_1]; omega))) rfl rfl (xroom (Nat.le_of_ble_eq_true rfl)) dL_law_1542 (push := (fun r343 => [.int r343])) (fun _ => rfl) (fun r343 w342 hyp => ?_)
  refine r_iload G 1 dL_law_1545 rfl ?_
  refine r_icmp_eq G 1552 dL_law_1547 (by decide) hyp (fun c345 hyp => ?_) (fun c345 hyp => ?_)
  · refine r_iload G 1 dL_law_1552 rfl ?_
    refine r_if_ne G 1569 dL_law_1554 (by decide) hyp (fun c346 hyp => ?_) (fun c346 hyp => ?_)
    · refine r_goto G 2578 dL_law_1569 (by decide) ?_
      refine r_iinc (v := (x4 + 7)) (lv' := [(4, .int (x4 + 7)), (6, .int r340), (5, .int r337), (0, .ref b), (1, .ref x1), (2, .ref x2), (3, .ref x3)]) G 6 dL_law_2578 rfl rfl (by decide) ⟨fun _ => rfl, fun _ => rfl, fun _ => rfl, fun _ => rfl, fun _ => rfl, fun _ => rfl, fun _ => rfl, trivial⟩ rfl ?_
      refine r_goto G 23 dL_law_2581 (by decide) ?_
      refine r_weak (lv' := [(0, .ref b), (1, .ref x1), (2, .ref x2), (3, .ref x3), (4, .int (x4 + 7))]) [3, 4, 5, 6, 0] rfl ?_
      exact hk23 x1 x2 x3 (x4 + 7) w342 _ _ (by omega) (by omega) hyp
    · refine r_aload_n G 5 dL_law_1557 rfl rfl ?_
      refine r_iconst (v := 0) G dL_law_1558 (by decide) ?_
      obtain ⟨v347, hv347, hyp⟩ := x_some hyp
      refine r_lald G hv347 dL_law_1559 ?_
      refine r_iload G 0 dL_law_1560 rfl ?_
      refine r_i2l G dL_law_1562 ?_
      refine r_lcmp G dL_law_1563 ?_
      refine r_if_eq G 1569 dL_law_1564 (by decide) hyp (fun c348 hyp => ?_) (fun c348 hyp => ?_)
      · refine r_goto G 2578 dL_law_1569 (by decide) ?_
        refine r_iinc (v := (x4 + 7)) (lv' := [(4, .int (x4 + 7)), (6, .int r340), (5, .int r337), (0, .ref b), (1, .ref x1), (2, .ref x2), (3, .ref x3)]) G 6 dL_law_2578 rfl rfl (by decide) ⟨fun _ => rfl, fun _ => rfl, fun _ => rfl, fun _ => rfl, fun _ => rfl, fun _ => rfl, fun _ => rfl, trivial⟩ rfl ?_
        refine r_goto G 23 dL_law_2581 (by decide) ?_
        refine r_weak (lv' := [(0, .ref b), (1, .ref x1), (2, .ref x2), (3, .ref x3), (4, .int (x4 + 7))]) [3, 4, 5, 6, 0] rfl ?_
        exact hk23 x1 x2 x3 (x4 + 7) w342 _ _ (by omega) (by omega) hyp
      · refine r_iconst (v := 0) G dL_law_1567 (by decide) ?_
        exact r_lwF hyp
  · refine r_iconst (v := 0) G dL_law_1550 (by decide) ?_
    exact r_lwF hyp
end
section
variable {Γ : xG} {p : Program} {l : Launch} {e : Env} {s : State} {m : MethodId} {below : List Frame} {meth : Method} {c : Code} {wF : xW} {b L : Nat} {xs : Nat → Int32}
set_option maxRecDepth 100000 in
set_option maxHeartbeats 4000000 in
theorem nd_L_law_J1572 {k23 : Nat → Nat → Nat → Int32 → xW → xO Int32} (G : xCx Γ p l s m #[Value.ref b] meth c RL cL_law 9 (some .boolean)) (hN : xNc s) (hX : xSc Γ b L xs s) (n : Nat) (hk23 : ∀ (x1 : Nat) (x2 : Nat) (x3 : Nat) (x4 : Int32) (w : xW) (cells slots : Nat), cells + n * 1 ≤ 601024 → slots + n * 6 ≤ 7293034 → k23 x1 x2 x3 x4 w = some (Sum.inl (1 : Int32), wF) → xAW Γ p l e room_1 s m #[Value.ref b] below meth c 9 (lw_Z below #[Value.ref b] s) w cells slots 23 [(0, .ref b), (1, .ref x1), (2, .ref x2), (3, .ref x3), (4, .int x4)] []) (x1 : Nat) (x2 : Nat) (x3 : Nat) (x4 : Int32) (w0 : xW) (cells slots : Nat) (hcl : cells + (n + 1) * 1 ≤ 601024) (hsl : slots + (n + 1) * 6 ≤ 7293034) (hyp : f_L_law_J1572 xs L k23 x1 x2 x3 x4 w0 = some (Sum.inl (1 : Int32), wF)) : xAW Γ p l e room_1 s m #[Value.ref b] below meth c 9 (lw_Z below #[Value.ref b] s) w0 cells slots 1572 [(0, .ref b), (1, .ref x1), (2, .ref x2), (3, .ref x3), (4, .int x4)] [] := by
  rw [f_L_law_J1572] at hyp
  refine r_aload_n G 1 dL_law_1572 rfl rfl ?_
  obtain ⟨o352, hyp⟩ := x_chk hyp
  refine r_callLV (ι := xI) (T := TX6) (N := 9) (ci := 6) (b := x1) (rest := []) (As := []) G tg_X6_commonestTone (fun r w' h => ct_X6_commonestTone (xhl G) _ _ r w' h) o352 hyp rfl ww_1099 ww_1101 ww_1100 (by decide) (by decide) (by first | exact ⟨Nat.le_of_ble_eq_true rfl, Nat.le_of_ble_eq_true rfl⟩ | (constructor <;> (show _ ≤ _; simp only [room_1]; omega))) rfl rfl (xroom (Nat.le_of_ble_eq_true rfl)) dL_law_1573 (push := (fun r351 => [.int r351])) (fun _ => rfl) (fun r351 w350 hyp => ?_)
  refine r_aload_n G 2 dL_law_1576 rfl rfl ?_
  obtain ⟨o355, hyp⟩ := x_chk hyp
  refine r_callLV (ι := xI) (T := TX7) (N := 22) (ci := 7) (b := x2) (rest := [.int r351]) (As := []) G tg_X7_commonestTone (fun r w' h => ct_X7_commonestTone (xhl G) _ _ r w' h) o355 hyp rfl ww_1102 ww_1104 ww_1103 (by decide) (by decide) (by first | exact ⟨Nat.le_of_ble_eq_true rfl, Nat.le_of_ble_eq_true rfl⟩ | (constructor <;> (show _ ≤ _; simp only [room_1]; omega))) rfl rfl (xroom (Nat.le_of_ble_eq_true rfl)) dL_law_1577 (push := (fun r354 => [.int r354, .int r351])) (fun _ => rfl) (fun r354 w353 hyp => ?_)
  refine r_icmp_eq G 2578 dL_law_1580 (by decide) hyp (fun c356 hyp => ?_) (fun c356 hyp => ?_)
  · refine r_iinc (v := (x4 + 7)) (lv' := [(4, .int (x4 + 7)), (0, .ref b), (1, .ref x1), (2, .ref x2), (3, .ref x3)]) G 4 dL_law_2578 rfl rfl (by decide) ⟨fun _ => rfl, fun _ => rfl, fun _ => rfl, fun _ => rfl, fun _ => rfl, trivial⟩ rfl ?_
    refine r_goto G 23 dL_law_2581 (by decide) ?_
    refine r_weak (lv' := [(0, .ref b), (1, .ref x1), (2, .ref x2), (3, .ref x3), (4, .int (x4 + 7))]) [1, 2, 3, 4, 0] rfl ?_
    exact hk23 x1 x2 x3 (x4 + 7) w353 _ _ (by omega) (by omega) hyp
  · refine r_iconst (v := 0) G dL_law_1583 (by decide) ?_
    exact r_lwF hyp
end
section
variable {Γ : xG} {p : Program} {l : Launch} {e : Env} {s : State} {m : MethodId} {below : List Frame} {meth : Method} {c : Code} {wF : xW} {b L : Nat} {xs : Nat → Int32}
set_option maxRecDepth 100000 in
set_option maxHeartbeats 4000000 in
theorem nd_L_law_J1585 {k23 : Nat → Nat → Nat → Int32 → xW → xO Int32} (G : xCx Γ p l s m #[Value.ref b] meth c RL cL_law 9 (some .boolean)) (hN : xNc s) (hX : xSc Γ b L xs s) (n : Nat) (hk23 : ∀ (x1 : Nat) (x2 : Nat) (x3 : Nat) (x4 : Int32) (w : xW) (cells slots : Nat), cells + n * 1 ≤ 601024 → slots + n * 6 ≤ 7293034 → k23 x1 x2 x3 x4 w = some (Sum.inl (1 : Int32), wF) → xAW Γ p l e room_1 s m #[Value.ref b] below meth c 9 (lw_Z below #[Value.ref b] s) w cells slots 23 [(0, .ref b), (1, .ref x1), (2, .ref x2), (3, .ref x3), (4, .int x4)] []) (x1 : Nat) (x2 : Nat) (x3 : Nat) (x4 : Int32) (w0 : xW) (cells slots : Nat) (hcl : cells + (n + 1) * 1 ≤ 601024) (hsl : slots + (n + 1) * 6 ≤ 7293034) (hyp : f_L_law_J1585 xs L k23 x1 x2 x3 x4 w0 = some (Sum.inl (1 : Int32), wF)) : xAW Γ p l e room_1 s m #[Value.ref b] below meth c 9 (lw_Z below #[Value.ref b] s) w0 cells slots 1585 [(0, .ref b), (1, .ref x1), (2, .ref x2), (3, .ref x3), (4, .int x4)] [] := by
  rw [f_L_law_J1585] at hyp
  refine r_aload_n G 1 dL_law_1585 rfl rfl ?_
  refine r_aload_n G 0 dL_law_1586 rfl rfl ?_
  refine r_iload G 4 dL_law_1587 rfl ?_
  refine r_iconst (v := 1) G dL_law_1589 (by decide) ?_
  refine r_iadd G dL_law_1590 ?_
  obtain ⟨h358, hyp⟩ := x_chk hyp
  refine r_sld G hX h358 dL_law_1591 ?_
  refine r_aload_n G 0 dL_law_1592 rfl rfl ?_
  refine r_iload G 4 dL_law_1593 rfl ?_
  refine r_iconst (v := 2) G dL_law_1595 (by decide) ?_
  refine r_iadd G dL_law_1596 ?_
  obtain ⟨h359, hyp⟩ := x_chk hyp
  refine r_sld G hX h359 dL_law_1597 ?_
  refine r_aload_n G 0 dL_law_1598 rfl rfl ?_
  refine r_iload G 4 dL_law_1599 rfl ?_
  refine r_iconst (v := 3) G dL_law_1601 (by decide) ?_
  refine r_iadd G dL_law_1602 ?_
  obtain ⟨h360, hyp⟩ := x_chk hyp
  refine r_sld G hX h360 dL_law_1603 ?_
  refine r_aload_n G 0 dL_law_1604 rfl rfl ?_
  refine r_iload G 4 dL_law_1605 rfl ?_
  refine r_iconst (v := 4) G dL_law_1607 (by decide) ?_
  refine r_iadd G dL_law_1608 ?_
  obtain ⟨h361, hyp⟩ := x_chk hyp
  refine r_sld G hX h361 dL_law_1609 ?_
  refine r_aload_n G 3 dL_law_1610 rfl rfl ?_
  refine r_callLS (ι := xI) (rest := []) (As := [va_rf (some x1), .int (xs ((x4 + 1)).toNatClampNeg), .int (xs ((x4 + 2)).toNatClampNeg), .int (xs ((x4 + 3)).toNatClampNeg), .int (xs ((x4 + 4)).toNatClampNeg), va_rf (some x3)]) G hN tgh_L_sumOfTones (fun r w' h => ct_L_sumOfTones (xhl G) _ _ _ _ _ _ _ r w' h) hyp ww_1105 ww_1106 (by decide) (by decide) (by first | exact ⟨Nat.le_of_ble_eq_true rfl, Nat.le_of_ble_eq_true rfl⟩ | (constructor <;> (show _ ≤ _; simp only [room_1]; omega))) rfl rfl (xroom (Nat.le_of_ble_eq_true rfl)) dL_law_1611 (push := (fun r363 => [.int r363])) (fun _ => rfl) (fun r363 w362 hyp => ?_)
  refine r_istore (lv' := [(5, .int r363), (0, .ref b), (1, .ref x1), (2, .ref x2), (3, .ref x3), (4, .int x4)]) G dL_law_1614 (by decide) ⟨fun _ => rfl, fun _ => rfl, fun _ => rfl, fun _ => rfl, fun _ => rfl, trivial⟩ rfl ?_
  refine r_aload_n G 3 dL_law_1616 rfl rfl ?_
  refine r_aload_n G 1 dL_law_1617 rfl rfl ?_
  refine r_iload G 5 dL_law_1618 rfl ?_
  refine r_iconst (v := 1) G dL_law_1620 (by decide) ?_
  refine r_iadd G dL_law_1621 ?_
  obtain ⟨h364, hyp⟩ := x_chk hyp
  refine r_sld G hX h364 dL_law_1622 ?_
  refine r_aload_n G 1 dL_law_1623 rfl rfl ?_
  refine r_iload G 5 dL_law_1624 rfl ?_
  refine r_iconst (v := 2) G dL_law_1626 (by decide) ?_
  refine r_iadd G dL_law_1627 ?_
  obtain ⟨h365, hyp⟩ := x_chk hyp
  refine r_sld G hX h365 dL_law_1628 ?_
  refine r_aload_n G 1 dL_law_1629 rfl rfl ?_
  refine r_iload G 5 dL_law_1630 rfl ?_
  refine r_iconst (v := 3) G dL_law_1632 (by decide) ?_
  refine r_iadd G dL_law_1633 ?_
  obtain ⟨h366, hyp⟩ := x_chk hyp
  refine r_sld G hX h366 dL_law_1634 ?_
  refine r_aload_n G 1 dL_law_1635 rfl rfl ?_
  refine r_iload G 5 dL_law_1636 rfl ?_
  refine r_iconst (v := 4) G dL_law_1638 (by decide) ?_
  refine r_iadd G dL_law_1639 ?_
  obtain ⟨h367, hyp⟩ := x_chk hyp
  refine r_sld G hX h367 dL_law_1640 ?_
  obtain ⟨o370, hyp⟩ := x_chk hyp
  refine r_callLV (ι := xI) (T := TX7) (N := 22) (ci := 7) (b := x2) (rest := []) (As := [.int (xs ((x4 + 1)).toNatClampNeg), .int (xs ((x4 + 2)).toNatClampNeg), .int (xs ((x4 + 3)).toNatClampNeg), .int (xs ((x4 + 4)).toNatClampNeg)]) G tg_X7_sumOfTones (fun r w' h => ct_X7_sumOfTones (xhl G) _ _ _ _ _ _ r w' h) o370 hyp rfl ww_1107 ww_793 ww_792 (by decide) (by decide) (by first | exact ⟨Nat.le_of_ble_eq_true rfl, Nat.le_of_ble_eq_true rfl⟩ | (constructor <;> (show _ ≤ _; simp only [room_1]; omega))) rfl rfl (xroom (Nat.le_of_ble_eq_true rfl)) dL_law_1641 (push := (fun r369 => [.int r369])) (fun _ => rfl) (fun r369 w368 hyp => ?_)
  refine r_istore (lv' := [(6, .int r369), (5, .int r363), (0, .ref b), (1, .ref x1), (2, .ref x2), (3, .ref x3), (4, .int x4)]) G dL_law_1644 (by decide) ⟨fun _ => rfl, fun _ => rfl, fun _ => rfl, fun _ => rfl, fun _ => rfl, fun _ => rfl, trivial⟩ rfl ?_
  refine r_aload_n G 4 dL_law_1646 rfl rfl ?_
  obtain ⟨o373, hyp⟩ := x_chk hyp
  refine r_callLV (ι := xI) (T := TX7) (N := 22) (ci := 7) (b := x2) (rest := []) (As := []) G tg_X7_thrown (fun r w' h => ct_X7_thrown (xhl G) _ _ r w' h) o373 hyp rfl ww_996 ww_998 ww_997 (by decide) (by decide) (by first | exact ⟨Nat.le_of_ble_eq_true rfl, Nat.le_of_ble_eq_true rfl⟩ | (constructor <;> (show _ ≤ _; simp only [room_1]; omega))) rfl rfl (xroom (Nat.le_of_ble_eq_true rfl)) dL_law_1647 (push := (fun r372 => [.int r372])) (fun _ => rfl) (fun r372 w371 hyp => ?_)
  refine r_iload G 1 dL_law_1650 rfl ?_
  refine r_icmp_eq G 1657 dL_law_1652 (by decide) hyp (fun c374 hyp => ?_) (fun c374 hyp => ?_)
  · refine r_iload G 1 dL_law_1657 rfl ?_
    refine r_if_ne G 1674 dL_law_1659 (by decide) hyp (fun c375 hyp => ?_) (fun c375 hyp => ?_)
    · refine r_goto G 2578 dL_law_1674 (by decide) ?_
      refine r_iinc (v := (x4 + 7)) (lv' := [(4, .int (x4 + 7)), (6, .int r369), (5, .int r363), (0, .ref b), (1, .ref x1), (2, .ref x2), (3, .ref x3)]) G 6 dL_law_2578 rfl rfl (by decide) ⟨fun _ => rfl, fun _ => rfl, fun _ => rfl, fun _ => rfl, fun _ => rfl, fun _ => rfl, fun _ => rfl, trivial⟩ rfl ?_
      refine r_goto G 23 dL_law_2581 (by decide) ?_
      refine r_weak (lv' := [(0, .ref b), (1, .ref x1), (2, .ref x2), (3, .ref x3), (4, .int (x4 + 7))]) [3, 4, 5, 6, 0] rfl ?_
      exact hk23 x1 x2 x3 (x4 + 7) w371 _ _ (by omega) (by omega) hyp
    · refine r_aload_n G 5 dL_law_1662 rfl rfl ?_
      refine r_iconst (v := 0) G dL_law_1663 (by decide) ?_
      obtain ⟨v376, hv376, hyp⟩ := x_some hyp
      refine r_lald G hv376 dL_law_1664 ?_
      refine r_iload G 0 dL_law_1665 rfl ?_
      refine r_i2l G dL_law_1667 ?_
      refine r_lcmp G dL_law_1668 ?_
      refine r_if_eq G 1674 dL_law_1669 (by decide) hyp (fun c377 hyp => ?_) (fun c377 hyp => ?_)
      · refine r_goto G 2578 dL_law_1674 (by decide) ?_
        refine r_iinc (v := (x4 + 7)) (lv' := [(4, .int (x4 + 7)), (6, .int r369), (5, .int r363), (0, .ref b), (1, .ref x1), (2, .ref x2), (3, .ref x3)]) G 6 dL_law_2578 rfl rfl (by decide) ⟨fun _ => rfl, fun _ => rfl, fun _ => rfl, fun _ => rfl, fun _ => rfl, fun _ => rfl, fun _ => rfl, trivial⟩ rfl ?_
        refine r_goto G 23 dL_law_2581 (by decide) ?_
        refine r_weak (lv' := [(0, .ref b), (1, .ref x1), (2, .ref x2), (3, .ref x3), (4, .int (x4 + 7))]) [3, 4, 5, 6, 0] rfl ?_
        exact hk23 x1 x2 x3 (x4 + 7) w371 _ _ (by omega) (by omega) hyp
      · refine r_iconst (v := 0) G dL_law_1672 (by decide) ?_
        exact r_lwF hyp
  · refine r_iconst (v := 0) G dL_law_1655 (by decide) ?_
    exact r_lwF hyp
end
section
variable {Γ : xG} {p : Program} {l : Launch} {e : Env} {s : State} {m : MethodId} {below : List Frame} {meth : Method} {c : Code} {wF : xW} {b L : Nat} {xs : Nat → Int32}
set_option maxRecDepth 100000 in
set_option maxHeartbeats 4000000 in
theorem nd_L_law_J1677 {k23 : Nat → Nat → Nat → Int32 → xW → xO Int32} (G : xCx Γ p l s m #[Value.ref b] meth c RL cL_law 9 (some .boolean)) (hN : xNc s) (hX : xSc Γ b L xs s) (n : Nat) (hk23 : ∀ (x1 : Nat) (x2 : Nat) (x3 : Nat) (x4 : Int32) (w : xW) (cells slots : Nat), cells + n * 1 ≤ 601024 → slots + n * 6 ≤ 7293034 → k23 x1 x2 x3 x4 w = some (Sum.inl (1 : Int32), wF) → xAW Γ p l e room_1 s m #[Value.ref b] below meth c 9 (lw_Z below #[Value.ref b] s) w cells slots 23 [(0, .ref b), (1, .ref x1), (2, .ref x2), (3, .ref x3), (4, .int x4)] []) (x1 : Nat) (x2 : Nat) (x3 : Nat) (x4 : Int32) (w0 : xW) (cells slots : Nat) (hcl : cells + (n + 1) * 1 ≤ 601024) (hsl : slots + (n + 1) * 6 ≤ 7293034) (hyp : f_L_law_J1677 xs L k23 x1 x2 x3 x4 w0 = some (Sum.inl (1 : Int32), wF)) : xAW Γ p l e room_1 s m #[Value.ref b] below meth c 9 (lw_Z below #[Value.ref b] s) w0 cells slots 1677 [(0, .ref b), (1, .ref x1), (2, .ref x2), (3, .ref x3), (4, .int x4)] [] := by
  rw [f_L_law_J1677] at hyp
  refine r_aload_n G 1 dL_law_1677 rfl rfl ?_
  refine r_aload_n G 0 dL_law_1678 rfl rfl ?_
  refine r_iload G 4 dL_law_1679 rfl ?_
  refine r_iconst (v := 1) G dL_law_1681 (by decide) ?_
  refine r_iadd G dL_law_1682 ?_
  obtain ⟨h379, hyp⟩ := x_chk hyp
  refine r_sld G hX h379 dL_law_1683 ?_
  refine r_aload_n G 0 dL_law_1684 rfl rfl ?_
  refine r_iload G 4 dL_law_1685 rfl ?_
  refine r_iconst (v := 2) G dL_law_1687 (by decide) ?_
  refine r_iadd G dL_law_1688 ?_
  obtain ⟨h380, hyp⟩ := x_chk hyp
  refine r_sld G hX h380 dL_law_1689 ?_
  refine r_aload_n G 0 dL_law_1690 rfl rfl ?_
  refine r_iload G 4 dL_law_1691 rfl ?_
  refine r_iconst (v := 3) G dL_law_1693 (by decide) ?_
  refine r_iadd G dL_law_1694 ?_
  obtain ⟨h381, hyp⟩ := x_chk hyp
  refine r_sld G hX h381 dL_law_1695 ?_
  refine r_aload_n G 0 dL_law_1696 rfl rfl ?_
  refine r_iload G 4 dL_law_1697 rfl ?_
  refine r_iconst (v := 4) G dL_law_1699 (by decide) ?_
  refine r_iadd G dL_law_1700 ?_
  obtain ⟨h382, hyp⟩ := x_chk hyp
  refine r_sld G hX h382 dL_law_1701 ?_
  refine r_aload_n G 3 dL_law_1702 rfl rfl ?_
  refine r_callLS (ι := xI) (rest := []) (As := [va_rf (some x1), .int (xs ((x4 + 1)).toNatClampNeg), .int (xs ((x4 + 2)).toNatClampNeg), .int (xs ((x4 + 3)).toNatClampNeg), .int (xs ((x4 + 4)).toNatClampNeg), va_rf (some x3)]) G hN tgh_L_sumOfTonesByTable (fun r w' h => ct_L_sumOfTonesByTable (xhl G) _ _ _ _ _ _ _ r w' h) hyp ww_1108 ww_1109 (by decide) (by decide) (by first | exact ⟨Nat.le_of_ble_eq_true rfl, Nat.le_of_ble_eq_true rfl⟩ | (constructor <;> (show _ ≤ _; simp only [room_1]; omega))) rfl rfl (xroom (Nat.le_of_ble_eq_true rfl)) dL_law_1703 (push := (fun r384 => [.int r384])) (fun _ => rfl) (fun r384 w383 hyp => ?_)
  refine r_istore (lv' := [(5, .int r384), (0, .ref b), (1, .ref x1), (2, .ref x2), (3, .ref x3), (4, .int x4)]) G dL_law_1706 (by decide) ⟨fun _ => rfl, fun _ => rfl, fun _ => rfl, fun _ => rfl, fun _ => rfl, trivial⟩ rfl ?_
  refine r_aload_n G 3 dL_law_1708 rfl rfl ?_
  refine r_aload_n G 1 dL_law_1709 rfl rfl ?_
  refine r_iload G 5 dL_law_1710 rfl ?_
  refine r_iconst (v := 1) G dL_law_1712 (by decide) ?_
  refine r_iadd G dL_law_1713 ?_
  obtain ⟨h385, hyp⟩ := x_chk hyp
  refine r_sld G hX h385 dL_law_1714 ?_
  refine r_aload_n G 1 dL_law_1715 rfl rfl ?_
  refine r_iload G 5 dL_law_1716 rfl ?_
  refine r_iconst (v := 2) G dL_law_1718 (by decide) ?_
  refine r_iadd G dL_law_1719 ?_
  obtain ⟨h386, hyp⟩ := x_chk hyp
  refine r_sld G hX h386 dL_law_1720 ?_
  refine r_aload_n G 1 dL_law_1721 rfl rfl ?_
  refine r_iload G 5 dL_law_1722 rfl ?_
  refine r_iconst (v := 3) G dL_law_1724 (by decide) ?_
  refine r_iadd G dL_law_1725 ?_
  obtain ⟨h387, hyp⟩ := x_chk hyp
  refine r_sld G hX h387 dL_law_1726 ?_
  refine r_aload_n G 1 dL_law_1727 rfl rfl ?_
  refine r_iload G 5 dL_law_1728 rfl ?_
  refine r_iconst (v := 4) G dL_law_1730 (by decide) ?_
  refine r_iadd G dL_law_1731 ?_
  obtain ⟨h388, hyp⟩ := x_chk hyp
  refine r_sld G hX h388 dL_law_1732 ?_
  obtain ⟨o391, hyp⟩ := x_chk hyp
  refine r_callLV (ι := xI) (T := TX7) (N := 22) (ci := 7) (b := x2) (rest := []) (As := [.int (xs ((x4 + 1)).toNatClampNeg), .int (xs ((x4 + 2)).toNatClampNeg), .int (xs ((x4 + 3)).toNatClampNeg), .int (xs ((x4 + 4)).toNatClampNeg)]) G tg_X7_sumOfTonesByTable (fun r w' h => ct_X7_sumOfTonesByTable (xhl G) _ _ _ _ _ _ r w' h) o391 hyp rfl ww_1110 ww_1112 ww_1111 (by decide) (by decide) (by first | exact ⟨Nat.le_of_ble_eq_true rfl, Nat.le_of_ble_eq_true rfl⟩ | (constructor <;> (show _ ≤ _; simp only [room_1]; omega))) rfl rfl (xroom (Nat.le_of_ble_eq_true rfl)) dL_law_1733 (push := (fun r390 => [.int r390])) (fun _ => rfl) (fun r390 w389 hyp => ?_)
  refine r_istore (lv' := [(6, .int r390), (5, .int r384), (0, .ref b), (1, .ref x1), (2, .ref x2), (3, .ref x3), (4, .int x4)]) G dL_law_1736 (by decide) ⟨fun _ => rfl, fun _ => rfl, fun _ => rfl, fun _ => rfl, fun _ => rfl, fun _ => rfl, trivial⟩ rfl ?_
  refine r_aload_n G 4 dL_law_1738 rfl rfl ?_
  obtain ⟨o394, hyp⟩ := x_chk hyp
  refine r_callLV (ι := xI) (T := TX7) (N := 22) (ci := 7) (b := x2) (rest := []) (As := []) G tg_X7_thrown (fun r w' h => ct_X7_thrown (xhl G) _ _ r w' h) o394 hyp rfl ww_996 ww_998 ww_997 (by decide) (by decide) (by first | exact ⟨Nat.le_of_ble_eq_true rfl, Nat.le_of_ble_eq_true rfl⟩ | (constructor <;> (show _ ≤ _; simp only [room_1]; omega))) rfl rfl (xroom (Nat.le_of_ble_eq_true rfl)) dL_law_1739 (push := (fun r393 => [.int r393])) (fun _ => rfl) (fun r393 w392 hyp => ?_)
  refine r_iload G 1 dL_law_1742 rfl ?_
  refine r_icmp_eq G 1749 dL_law_1744 (by decide) hyp (fun c395 hyp => ?_) (fun c395 hyp => ?_)
  · refine r_iload G 1 dL_law_1749 rfl ?_
    refine r_if_ne G 1766 dL_law_1751 (by decide) hyp (fun c396 hyp => ?_) (fun c396 hyp => ?_)
    · refine r_goto G 2578 dL_law_1766 (by decide) ?_
      refine r_iinc (v := (x4 + 7)) (lv' := [(4, .int (x4 + 7)), (6, .int r390), (5, .int r384), (0, .ref b), (1, .ref x1), (2, .ref x2), (3, .ref x3)]) G 6 dL_law_2578 rfl rfl (by decide) ⟨fun _ => rfl, fun _ => rfl, fun _ => rfl, fun _ => rfl, fun _ => rfl, fun _ => rfl, fun _ => rfl, trivial⟩ rfl ?_
      refine r_goto G 23 dL_law_2581 (by decide) ?_
      refine r_weak (lv' := [(0, .ref b), (1, .ref x1), (2, .ref x2), (3, .ref x3), (4, .int (x4 + 7))]) [3, 4, 5, 6, 0] rfl ?_
      exact hk23 x1 x2 x3 (x4 + 7) w392 _ _ (by omega) (by omega) hyp
    · refine r_aload_n G 5 dL_law_1754 rfl rfl ?_
      refine r_iconst (v := 0) G dL_law_1755 (by decide) ?_
      obtain ⟨v397, hv397, hyp⟩ := x_some hyp
      refine r_lald G hv397 dL_law_1756 ?_
      refine r_iload G 0 dL_law_1757 rfl ?_
      refine r_i2l G dL_law_1759 ?_
      refine r_lcmp G dL_law_1760 ?_
      refine r_if_eq G 1766 dL_law_1761 (by decide) hyp (fun c398 hyp => ?_) (fun c398 hyp => ?_)
      · refine r_goto G 2578 dL_law_1766 (by decide) ?_
        refine r_iinc (v := (x4 + 7)) (lv' := [(4, .int (x4 + 7)), (6, .int r390), (5, .int r384), (0, .ref b), (1, .ref x1), (2, .ref x2), (3, .ref x3)]) G 6 dL_law_2578 rfl rfl (by decide) ⟨fun _ => rfl, fun _ => rfl, fun _ => rfl, fun _ => rfl, fun _ => rfl, fun _ => rfl, fun _ => rfl, trivial⟩ rfl ?_
        refine r_goto G 23 dL_law_2581 (by decide) ?_
        refine r_weak (lv' := [(0, .ref b), (1, .ref x1), (2, .ref x2), (3, .ref x3), (4, .int (x4 + 7))]) [3, 4, 5, 6, 0] rfl ?_
        exact hk23 x1 x2 x3 (x4 + 7) w392 _ _ (by omega) (by omega) hyp
      · refine r_iconst (v := 0) G dL_law_1764 (by decide) ?_
        exact r_lwF hyp
  · refine r_iconst (v := 0) G dL_law_1747 (by decide) ?_
    exact r_lwF hyp
end
section
variable {Γ : xG} {p : Program} {l : Launch} {e : Env} {s : State} {m : MethodId} {below : List Frame} {meth : Method} {c : Code} {wF : xW} {b L : Nat} {xs : Nat → Int32}
set_option maxRecDepth 100000 in
set_option maxHeartbeats 4000000 in
theorem nd_L_law_J1769 {k23 : Nat → Nat → Nat → Int32 → xW → xO Int32} (G : xCx Γ p l s m #[Value.ref b] meth c RL cL_law 9 (some .boolean)) (hN : xNc s) (hX : xSc Γ b L xs s) (n : Nat) (hk23 : ∀ (x1 : Nat) (x2 : Nat) (x3 : Nat) (x4 : Int32) (w : xW) (cells slots : Nat), cells + n * 1 ≤ 601024 → slots + n * 6 ≤ 7293034 → k23 x1 x2 x3 x4 w = some (Sum.inl (1 : Int32), wF) → xAW Γ p l e room_1 s m #[Value.ref b] below meth c 9 (lw_Z below #[Value.ref b] s) w cells slots 23 [(0, .ref b), (1, .ref x1), (2, .ref x2), (3, .ref x3), (4, .int x4)] []) (x1 : Nat) (x2 : Nat) (x3 : Nat) (x4 : Int32) (w0 : xW) (cells slots : Nat) (hcl : cells + (n + 1) * 1 ≤ 601024) (hsl : slots + (n + 1) * 6 ≤ 7293034) (hyp : f_L_law_J1769 xs L k23 x1 x2 x3 x4 w0 = some (Sum.inl (1 : Int32), wF)) : xAW Γ p l e room_1 s m #[Value.ref b] below meth c 9 (lw_Z below #[Value.ref b] s) w0 cells slots 1769 [(0, .ref b), (1, .ref x1), (2, .ref x2), (3, .ref x3), (4, .int x4)] [] := by
  rw [f_L_law_J1769] at hyp
  refine r_aload_n G 1 dL_law_1769 rfl rfl ?_
  refine r_aload_n G 0 dL_law_1770 rfl rfl ?_
  refine r_iload G 4 dL_law_1771 rfl ?_
  refine r_iconst (v := 1) G dL_law_1773 (by decide) ?_
  refine r_iadd G dL_law_1774 ?_
  obtain ⟨h400, hyp⟩ := x_chk hyp
  refine r_sld G hX h400 dL_law_1775 ?_
  refine r_aload_n G 0 dL_law_1776 rfl rfl ?_
  refine r_iload G 4 dL_law_1777 rfl ?_
  refine r_iconst (v := 2) G dL_law_1779 (by decide) ?_
  refine r_iadd G dL_law_1780 ?_
  obtain ⟨h401, hyp⟩ := x_chk hyp
  refine r_sld G hX h401 dL_law_1781 ?_
  refine r_aload_n G 3 dL_law_1782 rfl rfl ?_
  refine r_callLS (ι := xI) (rest := []) (As := [va_rf (some x1), .int (xs ((x4 + 1)).toNatClampNeg), .int (xs ((x4 + 2)).toNatClampNeg), va_rf (some x3)]) G hN tgh_L_areaSize (fun r w' h => ct_L_areaSize (xhl G) _ _ _ _ _ r w' h) hyp ww_1113 ww_1114 (by decide) (by decide) (by first | exact ⟨Nat.le_of_ble_eq_true rfl, Nat.le_of_ble_eq_true rfl⟩ | (constructor <;> (show _ ≤ _; simp only [room_1]; omega))) rfl rfl (xroom (Nat.le_of_ble_eq_true rfl)) dL_law_1783 (push := (fun r403 => [.int r403])) (fun _ => rfl) (fun r403 w402 hyp => ?_)
  refine r_istore (lv' := [(5, .int r403), (0, .ref b), (1, .ref x1), (2, .ref x2), (3, .ref x3), (4, .int x4)]) G dL_law_1786 (by decide) ⟨fun _ => rfl, fun _ => rfl, fun _ => rfl, fun _ => rfl, fun _ => rfl, trivial⟩ rfl ?_
  refine r_aload_n G 3 dL_law_1788 rfl rfl ?_
  refine r_aload_n G 1 dL_law_1789 rfl rfl ?_
  refine r_iload G 5 dL_law_1790 rfl ?_
  refine r_iconst (v := 1) G dL_law_1792 (by decide) ?_
  refine r_iadd G dL_law_1793 ?_
  obtain ⟨h404, hyp⟩ := x_chk hyp
  refine r_sld G hX h404 dL_law_1794 ?_
  refine r_aload_n G 1 dL_law_1795 rfl rfl ?_
  refine r_iload G 5 dL_law_1796 rfl ?_
  refine r_iconst (v := 2) G dL_law_1798 (by decide) ?_
  refine r_iadd G dL_law_1799 ?_
  obtain ⟨h405, hyp⟩ := x_chk hyp
  refine r_sld G hX h405 dL_law_1800 ?_
  obtain ⟨o408, hyp⟩ := x_chk hyp
  refine r_callLV (ι := xI) (T := TX7) (N := 22) (ci := 7) (b := x2) (rest := []) (As := [.int (xs ((x4 + 1)).toNatClampNeg), .int (xs ((x4 + 2)).toNatClampNeg)]) G tg_X7_areaSize (fun r w' h => ct_X7_areaSize (xhl G) _ _ _ _ r w' h) o408 hyp rfl ww_1115 ww_1117 ww_1116 (by decide) (by decide) (by first | exact ⟨Nat.le_of_ble_eq_true rfl, Nat.le_of_ble_eq_true rfl⟩ | (constructor <;> (show _ ≤ _; simp only [room_1]; omega))) rfl rfl (xroom (Nat.le_of_ble_eq_true rfl)) dL_law_1801 (push := (fun r407 => [.int r407])) (fun _ => rfl) (fun r407 w406 hyp => ?_)
  refine r_istore (lv' := [(6, .int r407), (5, .int r403), (0, .ref b), (1, .ref x1), (2, .ref x2), (3, .ref x3), (4, .int x4)]) G dL_law_1804 (by decide) ⟨fun _ => rfl, fun _ => rfl, fun _ => rfl, fun _ => rfl, fun _ => rfl, fun _ => rfl, trivial⟩ rfl ?_
  refine r_aload_n G 4 dL_law_1806 rfl rfl ?_
  obtain ⟨o411, hyp⟩ := x_chk hyp
  refine r_callLV (ι := xI) (T := TX7) (N := 22) (ci := 7) (b := x2) (rest := []) (As := []) G tg_X7_thrown (fun r w' h => ct_X7_thrown (xhl G) _ _ r w' h) o411 hyp rfl ww_996 ww_998 ww_997 (by decide) (by decide) (by first | exact ⟨Nat.le_of_ble_eq_true rfl, Nat.le_of_ble_eq_true rfl⟩ | (constructor <;> (show _ ≤ _; simp only [room_1]; omega))) rfl rfl (xroom (Nat.le_of_ble_eq_true rfl)) dL_law_1807 (push := (fun r410 => [.int r410])) (fun _ => rfl) (fun r410 w409 hyp => ?_)
  refine r_iload G 1 dL_law_1810 rfl ?_
  refine r_icmp_eq G 1817 dL_law_1812 (by decide) hyp (fun c412 hyp => ?_) (fun c412 hyp => ?_)
  · refine r_iload G 1 dL_law_1817 rfl ?_
    refine r_if_ne G 1834 dL_law_1819 (by decide) hyp (fun c413 hyp => ?_) (fun c413 hyp => ?_)
    · refine r_goto G 2578 dL_law_1834 (by decide) ?_
      refine r_iinc (v := (x4 + 7)) (lv' := [(4, .int (x4 + 7)), (6, .int r407), (5, .int r403), (0, .ref b), (1, .ref x1), (2, .ref x2), (3, .ref x3)]) G 6 dL_law_2578 rfl rfl (by decide) ⟨fun _ => rfl, fun _ => rfl, fun _ => rfl, fun _ => rfl, fun _ => rfl, fun _ => rfl, fun _ => rfl, trivial⟩ rfl ?_
      refine r_goto G 23 dL_law_2581 (by decide) ?_
      refine r_weak (lv' := [(0, .ref b), (1, .ref x1), (2, .ref x2), (3, .ref x3), (4, .int (x4 + 7))]) [3, 4, 5, 6, 0] rfl ?_
      exact hk23 x1 x2 x3 (x4 + 7) w409 _ _ (by omega) (by omega) hyp
    · refine r_aload_n G 5 dL_law_1822 rfl rfl ?_
      refine r_iconst (v := 0) G dL_law_1823 (by decide) ?_
      obtain ⟨v414, hv414, hyp⟩ := x_some hyp
      refine r_lald G hv414 dL_law_1824 ?_
      refine r_iload G 0 dL_law_1825 rfl ?_
      refine r_i2l G dL_law_1827 ?_
      refine r_lcmp G dL_law_1828 ?_
      refine r_if_eq G 1834 dL_law_1829 (by decide) hyp (fun c415 hyp => ?_) (fun c415 hyp => ?_)
      · refine r_goto G 2578 dL_law_1834 (by decide) ?_
        refine r_iinc (v := (x4 + 7)) (lv' := [(4, .int (x4 + 7)), (6, .int r407), (5, .int r403), (0, .ref b), (1, .ref x1), (2, .ref x2), (3, .ref x3)]) G 6 dL_law_2578 rfl rfl (by decide) ⟨fun _ => rfl, fun _ => rfl, fun _ => rfl, fun _ => rfl, fun _ => rfl, fun _ => rfl, fun _ => rfl, trivial⟩ rfl ?_
        refine r_goto G 23 dL_law_2581 (by decide) ?_
        refine r_weak (lv' := [(0, .ref b), (1, .ref x1), (2, .ref x2), (3, .ref x3), (4, .int (x4 + 7))]) [3, 4, 5, 6, 0] rfl ?_
        exact hk23 x1 x2 x3 (x4 + 7) w409 _ _ (by omega) (by omega) hyp
      · refine r_iconst (v := 0) G dL_law_1832 (by decide) ?_
        exact r_lwF hyp
  · refine r_iconst (v := 0) G dL_law_1815 (by decide) ?_
    exact r_lwF hyp
end
section
variable {Γ : xG} {p : Program} {l : Launch} {e : Env} {s : State} {m : MethodId} {below : List Frame} {meth : Method} {c : Code} {wF : xW} {b L : Nat} {xs : Nat → Int32}
set_option maxRecDepth 100000 in
set_option maxHeartbeats 4000000 in
theorem nd_L_law_J1837 {k23 : Nat → Nat → Nat → Int32 → xW → xO Int32} (G : xCx Γ p l s m #[Value.ref b] meth c RL cL_law 9 (some .boolean)) (hN : xNc s) (hX : xSc Γ b L xs s) (n : Nat) (hk23 : ∀ (x1 : Nat) (x2 : Nat) (x3 : Nat) (x4 : Int32) (w : xW) (cells slots : Nat), cells + n * 1 ≤ 601024 → slots + n * 6 ≤ 7293034 → k23 x1 x2 x3 x4 w = some (Sum.inl (1 : Int32), wF) → xAW Γ p l e room_1 s m #[Value.ref b] below meth c 9 (lw_Z below #[Value.ref b] s) w cells slots 23 [(0, .ref b), (1, .ref x1), (2, .ref x2), (3, .ref x3), (4, .int x4)] []) (x1 : Nat) (x2 : Nat) (x3 : Nat) (x4 : Int32) (w0 : xW) (cells slots : Nat) (hcl : cells + (n + 1) * 1 ≤ 601024) (hsl : slots + (n + 1) * 6 ≤ 7293034) (hyp : f_L_law_J1837 xs L k23 x1 x2 x3 x4 w0 = some (Sum.inl (1 : Int32), wF)) : xAW Γ p l e room_1 s m #[Value.ref b] below meth c 9 (lw_Z below #[Value.ref b] s) w0 cells slots 1837 [(0, .ref b), (1, .ref x1), (2, .ref x2), (3, .ref x3), (4, .int x4)] [] := by
  rw [f_L_law_J1837] at hyp
  refine r_aload_n G 1 dL_law_1837 rfl rfl ?_
  obtain ⟨o419, hyp⟩ := x_chk hyp
  refine r_callLV (ι := xI) (T := TX6) (N := 9) (ci := 6) (b := x1) (rest := []) (As := []) G tg_X6_areaCount (fun r w' h => ct_X6_areaCount (xhl G) _ _ r w' h) o419 hyp rfl ww_1118 ww_1120 ww_1119 (by decide) (by decide) (by first | exact ⟨Nat.le_of_ble_eq_true rfl, Nat.le_of_ble_eq_true rfl⟩ | (constructor <;> (show _ ≤ _; simp only [room_1]; omega))) rfl rfl (xroom (Nat.le_of_ble_eq_true rfl)) dL_law_1838 (push := (fun r418 => [.int r418])) (fun _ => rfl) (fun r418 w417 hyp => ?_)
  refine r_aload_n G 2 dL_law_1841 rfl rfl ?_
  obtain ⟨o422, hyp⟩ := x_chk hyp
  refine r_callLV (ι := xI) (T := TX7) (N := 22) (ci := 7) (b := x2) (rest := [.int r418]) (As := []) G tg_X7_areaCount (fun r w' h => ct_X7_areaCount (xhl G) _ _ r w' h) o422 hyp rfl ww_1121 ww_644 ww_643 (by decide) (by decide) (by first | exact ⟨Nat.le_of_ble_eq_true rfl, Nat.le_of_ble_eq_true rfl⟩ | (constructor <;> (show _ ≤ _; simp only [room_1]; omega))) rfl rfl (xroom (Nat.le_of_ble_eq_true rfl)) dL_law_1842 (push := (fun r421 => [.int r421, .int r418])) (fun _ => rfl) (fun r421 w420 hyp => ?_)
  refine r_icmp_eq G 2578 dL_law_1845 (by decide) hyp (fun c423 hyp => ?_) (fun c423 hyp => ?_)
  · refine r_iinc (v := (x4 + 7)) (lv' := [(4, .int (x4 + 7)), (0, .ref b), (1, .ref x1), (2, .ref x2), (3, .ref x3)]) G 4 dL_law_2578 rfl rfl (by decide) ⟨fun _ => rfl, fun _ => rfl, fun _ => rfl, fun _ => rfl, fun _ => rfl, trivial⟩ rfl ?_
    refine r_goto G 23 dL_law_2581 (by decide) ?_
    refine r_weak (lv' := [(0, .ref b), (1, .ref x1), (2, .ref x2), (3, .ref x3), (4, .int (x4 + 7))]) [1, 2, 3, 4, 0] rfl ?_
    exact hk23 x1 x2 x3 (x4 + 7) w420 _ _ (by omega) (by omega) hyp
  · refine r_iconst (v := 0) G dL_law_1848 (by decide) ?_
    exact r_lwF hyp
end
section
variable {Γ : xG} {p : Program} {l : Launch} {e : Env} {s : State} {m : MethodId} {below : List Frame} {meth : Method} {c : Code} {wF : xW} {b L : Nat} {xs : Nat → Int32}
set_option maxRecDepth 100000 in
set_option maxHeartbeats 4000000 in
theorem nd_L_law_J1850 {k23 : Nat → Nat → Nat → Int32 → xW → xO Int32} (G : xCx Γ p l s m #[Value.ref b] meth c RL cL_law 9 (some .boolean)) (hN : xNc s) (hX : xSc Γ b L xs s) (n : Nat) (hk23 : ∀ (x1 : Nat) (x2 : Nat) (x3 : Nat) (x4 : Int32) (w : xW) (cells slots : Nat), cells + n * 1 ≤ 601024 → slots + n * 6 ≤ 7293034 → k23 x1 x2 x3 x4 w = some (Sum.inl (1 : Int32), wF) → xAW Γ p l e room_1 s m #[Value.ref b] below meth c 9 (lw_Z below #[Value.ref b] s) w cells slots 23 [(0, .ref b), (1, .ref x1), (2, .ref x2), (3, .ref x3), (4, .int x4)] []) (x1 : Nat) (x2 : Nat) (x3 : Nat) (x4 : Int32) (w0 : xW) (cells slots : Nat) (hcl : cells + (n + 1) * 1 ≤ 601024) (hsl : slots + (n + 1) * 6 ≤ 7293034) (hyp : f_L_law_J1850 xs L k23 x1 x2 x3 x4 w0 = some (Sum.inl (1 : Int32), wF)) : xAW Γ p l e room_1 s m #[Value.ref b] below meth c 9 (lw_Z below #[Value.ref b] s) w0 cells slots 1850 [(0, .ref b), (1, .ref x1), (2, .ref x2), (3, .ref x3), (4, .int x4)] [] := by
  rw [f_L_law_J1850] at hyp
  refine r_aload_n G 1 dL_law_1850 rfl rfl ?_
  obtain ⟨o427, hyp⟩ := x_chk hyp
  refine r_callLV (ι := xI) (T := TX6) (N := 9) (ci := 6) (b := x1) (rest := []) (As := []) G tg_X6_areaCountByJoining (fun r w' h => ct_X6_areaCountByJoining (xhl G) _ _ r w' h) o427 hyp rfl ww_1122 ww_1124 ww_1123 (by decide) (by decide) (by first | exact ⟨Nat.le_of_ble_eq_true rfl, Nat.le_of_ble_eq_true rfl⟩ | (constructor <;> (show _ ≤ _; simp only [room_1]; omega))) rfl rfl (xroom (Nat.le_of_ble_eq_true rfl)) dL_law_1851 (push := (fun r426 => [.int r426])) (fun _ => rfl) (fun r426 w425 hyp => ?_)
  refine r_aload_n G 2 dL_law_1854 rfl rfl ?_
  obtain ⟨o430, hyp⟩ := x_chk hyp
  refine r_callLV (ι := xI) (T := TX7) (N := 22) (ci := 7) (b := x2) (rest := [.int r426]) (As := []) G tg_X7_areaCountByJoining (fun r w' h => ct_X7_areaCountByJoining (xhl G) _ _ r w' h) o430 hyp rfl ww_1125 ww_1127 ww_1126 (by decide) (by decide) (by first | exact ⟨Nat.le_of_ble_eq_true rfl, Nat.le_of_ble_eq_true rfl⟩ | (constructor <;> (show _ ≤ _; simp only [room_1]; omega))) rfl rfl (xroom (Nat.le_of_ble_eq_true rfl)) dL_law_1855 (push := (fun r429 => [.int r429, .int r426])) (fun _ => rfl) (fun r429 w428 hyp => ?_)
  refine r_icmp_eq G 2578 dL_law_1858 (by decide) hyp (fun c431 hyp => ?_) (fun c431 hyp => ?_)
  · refine r_iinc (v := (x4 + 7)) (lv' := [(4, .int (x4 + 7)), (0, .ref b), (1, .ref x1), (2, .ref x2), (3, .ref x3)]) G 4 dL_law_2578 rfl rfl (by decide) ⟨fun _ => rfl, fun _ => rfl, fun _ => rfl, fun _ => rfl, fun _ => rfl, trivial⟩ rfl ?_
    refine r_goto G 23 dL_law_2581 (by decide) ?_
    refine r_weak (lv' := [(0, .ref b), (1, .ref x1), (2, .ref x2), (3, .ref x3), (4, .int (x4 + 7))]) [1, 2, 3, 4, 0] rfl ?_
    exact hk23 x1 x2 x3 (x4 + 7) w428 _ _ (by omega) (by omega) hyp
  · refine r_iconst (v := 0) G dL_law_1861 (by decide) ?_
    exact r_lwF hyp
end
section
variable {Γ : xG} {p : Program} {l : Launch} {e : Env} {s : State} {m : MethodId} {below : List Frame} {meth : Method} {c : Code} {wF : xW} {b L : Nat} {xs : Nat → Int32}
set_option maxRecDepth 100000 in
set_option maxHeartbeats 4000000 in
theorem nd_L_law_J1863 {k23 : Nat → Nat → Nat → Int32 → xW → xO Int32} (G : xCx Γ p l s m #[Value.ref b] meth c RL cL_law 9 (some .boolean)) (hN : xNc s) (hX : xSc Γ b L xs s) (n : Nat) (hk23 : ∀ (x1 : Nat) (x2 : Nat) (x3 : Nat) (x4 : Int32) (w : xW) (cells slots : Nat), cells + n * 1 ≤ 601024 → slots + n * 6 ≤ 7293034 → k23 x1 x2 x3 x4 w = some (Sum.inl (1 : Int32), wF) → xAW Γ p l e room_1 s m #[Value.ref b] below meth c 9 (lw_Z below #[Value.ref b] s) w cells slots 23 [(0, .ref b), (1, .ref x1), (2, .ref x2), (3, .ref x3), (4, .int x4)] []) (x1 : Nat) (x2 : Nat) (x3 : Nat) (x4 : Int32) (w0 : xW) (cells slots : Nat) (hcl : cells + (n + 1) * 1 ≤ 601024) (hsl : slots + (n + 1) * 6 ≤ 7293034) (hyp : f_L_law_J1863 xs L k23 x1 x2 x3 x4 w0 = some (Sum.inl (1 : Int32), wF)) : xAW Γ p l e room_1 s m #[Value.ref b] below meth c 9 (lw_Z below #[Value.ref b] s) w0 cells slots 1863 [(0, .ref b), (1, .ref x1), (2, .ref x2), (3, .ref x3), (4, .int x4)] [] := by
  rw [f_L_law_J1863] at hyp
  refine r_aload_n G 1 dL_law_1863 rfl rfl ?_
  obtain ⟨o435, hyp⟩ := x_chk hyp
  refine r_callLV (ι := xI) (T := TX6) (N := 9) (ci := 6) (b := x1) (rest := []) (As := []) G tg_X6_largestArea (fun r w' h => ct_X6_largestArea (xhl G) _ _ r w' h) o435 hyp rfl ww_1128 ww_1130 ww_1129 (by decide) (by decide) (by first | exact ⟨Nat.le_of_ble_eq_true rfl, Nat.le_of_ble_eq_true rfl⟩ | (constructor <;> (show _ ≤ _; simp only [room_1]; omega))) rfl rfl (xroom (Nat.le_of_ble_eq_true rfl)) dL_law_1864 (push := (fun r434 => [.int r434])) (fun _ => rfl) (fun r434 w433 hyp => ?_)
  refine r_aload_n G 2 dL_law_1867 rfl rfl ?_
  obtain ⟨o438, hyp⟩ := x_chk hyp
  refine r_callLV (ι := xI) (T := TX7) (N := 22) (ci := 7) (b := x2) (rest := [.int r434]) (As := []) G tg_X7_largestArea (fun r w' h => ct_X7_largestArea (xhl G) _ _ r w' h) o438 hyp rfl ww_1131 ww_1133 ww_1132 (by decide) (by decide) (by first | exact ⟨Nat.le_of_ble_eq_true rfl, Nat.le_of_ble_eq_true rfl⟩ | (constructor <;> (show _ ≤ _; simp only [room_1]; omega))) rfl rfl (xroom (Nat.le_of_ble_eq_true rfl)) dL_law_1868 (push := (fun r437 => [.int r437, .int r434])) (fun _ => rfl) (fun r437 w436 hyp => ?_)
  refine r_icmp_eq G 2578 dL_law_1871 (by decide) hyp (fun c439 hyp => ?_) (fun c439 hyp => ?_)
  · refine r_iinc (v := (x4 + 7)) (lv' := [(4, .int (x4 + 7)), (0, .ref b), (1, .ref x1), (2, .ref x2), (3, .ref x3)]) G 4 dL_law_2578 rfl rfl (by decide) ⟨fun _ => rfl, fun _ => rfl, fun _ => rfl, fun _ => rfl, fun _ => rfl, trivial⟩ rfl ?_
    refine r_goto G 23 dL_law_2581 (by decide) ?_
    refine r_weak (lv' := [(0, .ref b), (1, .ref x1), (2, .ref x2), (3, .ref x3), (4, .int (x4 + 7))]) [1, 2, 3, 4, 0] rfl ?_
    exact hk23 x1 x2 x3 (x4 + 7) w436 _ _ (by omega) (by omega) hyp
  · refine r_iconst (v := 0) G dL_law_1874 (by decide) ?_
    exact r_lwF hyp
end
section
variable {Γ : xG} {p : Program} {l : Launch} {e : Env} {s : State} {m : MethodId} {below : List Frame} {meth : Method} {c : Code} {wF : xW} {b L : Nat} {xs : Nat → Int32}
set_option maxRecDepth 100000 in
set_option maxHeartbeats 4000000 in
theorem nd_L_law_J1876 {k23 : Nat → Nat → Nat → Int32 → xW → xO Int32} (G : xCx Γ p l s m #[Value.ref b] meth c RL cL_law 9 (some .boolean)) (hN : xNc s) (hX : xSc Γ b L xs s) (n : Nat) (hk23 : ∀ (x1 : Nat) (x2 : Nat) (x3 : Nat) (x4 : Int32) (w : xW) (cells slots : Nat), cells + n * 1 ≤ 601024 → slots + n * 6 ≤ 7293034 → k23 x1 x2 x3 x4 w = some (Sum.inl (1 : Int32), wF) → xAW Γ p l e room_1 s m #[Value.ref b] below meth c 9 (lw_Z below #[Value.ref b] s) w cells slots 23 [(0, .ref b), (1, .ref x1), (2, .ref x2), (3, .ref x3), (4, .int x4)] []) (x1 : Nat) (x2 : Nat) (x3 : Nat) (x4 : Int32) (w0 : xW) (cells slots : Nat) (hcl : cells + (n + 1) * 1 ≤ 601024) (hsl : slots + (n + 1) * 6 ≤ 7293034) (hyp : f_L_law_J1876 xs L k23 x1 x2 x3 x4 w0 = some (Sum.inl (1 : Int32), wF)) : xAW Γ p l e room_1 s m #[Value.ref b] below meth c 9 (lw_Z below #[Value.ref b] s) w0 cells slots 1876 [(0, .ref b), (1, .ref x1), (2, .ref x2), (3, .ref x3), (4, .int x4)] [] := by
  rw [f_L_law_J1876] at hyp
  refine r_aload_n G 1 dL_law_1876 rfl rfl ?_
  obtain ⟨o443, hyp⟩ := x_chk hyp
  refine r_callLV (ι := xI) (T := TX6) (N := 9) (ci := 6) (b := x1) (rest := []) (As := []) G tg_X6_darkestRow (fun r w' h => ct_X6_darkestRow (xhl G) _ _ r w' h) o443 hyp rfl ww_1134 ww_1136 ww_1135 (by decide) (by decide) (by first | exact ⟨Nat.le_of_ble_eq_true rfl, Nat.le_of_ble_eq_true rfl⟩ | (constructor <;> (show _ ≤ _; simp only [room_1]; omega))) rfl rfl (xroom (Nat.le_of_ble_eq_true rfl)) dL_law_1877 (push := (fun r442 => [.int r442])) (fun _ => rfl) (fun r442 w441 hyp => ?_)
  refine r_aload_n G 2 dL_law_1880 rfl rfl ?_
  obtain ⟨o446, hyp⟩ := x_chk hyp
  refine r_callLV (ι := xI) (T := TX7) (N := 22) (ci := 7) (b := x2) (rest := [.int r442]) (As := []) G tg_X7_darkestRow (fun r w' h => ct_X7_darkestRow (xhl G) _ _ r w' h) o446 hyp rfl ww_1137 ww_1139 ww_1138 (by decide) (by decide) (by first | exact ⟨Nat.le_of_ble_eq_true rfl, Nat.le_of_ble_eq_true rfl⟩ | (constructor <;> (show _ ≤ _; simp only [room_1]; omega))) rfl rfl (xroom (Nat.le_of_ble_eq_true rfl)) dL_law_1881 (push := (fun r445 => [.int r445, .int r442])) (fun _ => rfl) (fun r445 w444 hyp => ?_)
  refine r_icmp_eq G 2578 dL_law_1884 (by decide) hyp (fun c447 hyp => ?_) (fun c447 hyp => ?_)
  · refine r_iinc (v := (x4 + 7)) (lv' := [(4, .int (x4 + 7)), (0, .ref b), (1, .ref x1), (2, .ref x2), (3, .ref x3)]) G 4 dL_law_2578 rfl rfl (by decide) ⟨fun _ => rfl, fun _ => rfl, fun _ => rfl, fun _ => rfl, fun _ => rfl, trivial⟩ rfl ?_
    refine r_goto G 23 dL_law_2581 (by decide) ?_
    refine r_weak (lv' := [(0, .ref b), (1, .ref x1), (2, .ref x2), (3, .ref x3), (4, .int (x4 + 7))]) [1, 2, 3, 4, 0] rfl ?_
    exact hk23 x1 x2 x3 (x4 + 7) w444 _ _ (by omega) (by omega) hyp
  · refine r_iconst (v := 0) G dL_law_1887 (by decide) ?_
    exact r_lwF hyp
end
section
variable {Γ : xG} {p : Program} {l : Launch} {e : Env} {s : State} {m : MethodId} {below : List Frame} {meth : Method} {c : Code} {wF : xW} {b L : Nat} {xs : Nat → Int32}
set_option maxRecDepth 100000 in
set_option maxHeartbeats 4000000 in
theorem nd_L_law_J1889 {k23 : Nat → Nat → Nat → Int32 → xW → xO Int32} (G : xCx Γ p l s m #[Value.ref b] meth c RL cL_law 9 (some .boolean)) (hN : xNc s) (hX : xSc Γ b L xs s) (n : Nat) (hk23 : ∀ (x1 : Nat) (x2 : Nat) (x3 : Nat) (x4 : Int32) (w : xW) (cells slots : Nat), cells + n * 1 ≤ 601024 → slots + n * 6 ≤ 7293034 → k23 x1 x2 x3 x4 w = some (Sum.inl (1 : Int32), wF) → xAW Γ p l e room_1 s m #[Value.ref b] below meth c 9 (lw_Z below #[Value.ref b] s) w cells slots 23 [(0, .ref b), (1, .ref x1), (2, .ref x2), (3, .ref x3), (4, .int x4)] []) (x1 : Nat) (x2 : Nat) (x3 : Nat) (x4 : Int32) (w0 : xW) (cells slots : Nat) (hcl : cells + (n + 1) * 1 ≤ 601024) (hsl : slots + (n + 1) * 6 ≤ 7293034) (hyp : f_L_law_J1889 xs L k23 x1 x2 x3 x4 w0 = some (Sum.inl (1 : Int32), wF)) : xAW Γ p l e room_1 s m #[Value.ref b] below meth c 9 (lw_Z below #[Value.ref b] s) w0 cells slots 1889 [(0, .ref b), (1, .ref x1), (2, .ref x2), (3, .ref x3), (4, .int x4)] [] := by
  rw [f_L_law_J1889] at hyp
  refine r_aload_n G 1 dL_law_1889 rfl rfl ?_
  obtain ⟨o451, hyp⟩ := x_chk hyp
  refine r_callLV (ι := xI) (T := TX6) (N := 9) (ci := 6) (b := x1) (rest := []) (As := []) G tg_X6_isMirrored (fun r w' h => ct_X6_isMirrored (xhl G) _ _ r w' h) o451 hyp rfl ww_1140 ww_1142 ww_1141 (by decide) (by decide) (by first | exact ⟨Nat.le_of_ble_eq_true rfl, Nat.le_of_ble_eq_true rfl⟩ | (constructor <;> (show _ ≤ _; simp only [room_1]; omega))) rfl rfl (xroom (Nat.le_of_ble_eq_true rfl)) dL_law_1890 (push := (fun r450 => [.int r450])) (fun _ => rfl) (fun r450 w449 hyp => ?_)
  refine r_aload_n G 2 dL_law_1893 rfl rfl ?_
  obtain ⟨o454, hyp⟩ := x_chk hyp
  refine r_callLV (ι := xI) (T := TX7) (N := 22) (ci := 7) (b := x2) (rest := [.int r450]) (As := []) G tg_X7_isMirrored (fun r w' h => ct_X7_isMirrored (xhl G) _ _ r w' h) o454 hyp rfl ww_1143 ww_1145 ww_1144 (by decide) (by decide) (by first | exact ⟨Nat.le_of_ble_eq_true rfl, Nat.le_of_ble_eq_true rfl⟩ | (constructor <;> (show _ ≤ _; simp only [room_1]; omega))) rfl rfl (xroom (Nat.le_of_ble_eq_true rfl)) dL_law_1894 (push := (fun r453 => [.int r453, .int r450])) (fun _ => rfl) (fun r453 w452 hyp => ?_)
  refine r_icmp_eq G 2578 dL_law_1897 (by decide) hyp (fun c455 hyp => ?_) (fun c455 hyp => ?_)
  · refine r_iinc (v := (x4 + 7)) (lv' := [(4, .int (x4 + 7)), (0, .ref b), (1, .ref x1), (2, .ref x2), (3, .ref x3)]) G 4 dL_law_2578 rfl rfl (by decide) ⟨fun _ => rfl, fun _ => rfl, fun _ => rfl, fun _ => rfl, fun _ => rfl, trivial⟩ rfl ?_
    refine r_goto G 23 dL_law_2581 (by decide) ?_
    refine r_weak (lv' := [(0, .ref b), (1, .ref x1), (2, .ref x2), (3, .ref x3), (4, .int (x4 + 7))]) [1, 2, 3, 4, 0] rfl ?_
    exact hk23 x1 x2 x3 (x4 + 7) w452 _ _ (by omega) (by omega) hyp
  · refine r_iconst (v := 0) G dL_law_1900 (by decide) ?_
    exact r_lwF hyp
end
section
variable {Γ : xG} {p : Program} {l : Launch} {e : Env} {s : State} {m : MethodId} {below : List Frame} {meth : Method} {c : Code} {wF : xW} {b L : Nat} {xs : Nat → Int32}
set_option maxRecDepth 100000 in
set_option maxHeartbeats 4000000 in
theorem nd_L_law_J1902 {k23 : Nat → Nat → Nat → Int32 → xW → xO Int32} (G : xCx Γ p l s m #[Value.ref b] meth c RL cL_law 9 (some .boolean)) (hN : xNc s) (hX : xSc Γ b L xs s) (n : Nat) (hk23 : ∀ (x1 : Nat) (x2 : Nat) (x3 : Nat) (x4 : Int32) (w : xW) (cells slots : Nat), cells + n * 1 ≤ 601024 → slots + n * 6 ≤ 7293034 → k23 x1 x2 x3 x4 w = some (Sum.inl (1 : Int32), wF) → xAW Γ p l e room_1 s m #[Value.ref b] below meth c 9 (lw_Z below #[Value.ref b] s) w cells slots 23 [(0, .ref b), (1, .ref x1), (2, .ref x2), (3, .ref x3), (4, .int x4)] []) (x1 : Nat) (x2 : Nat) (x3 : Nat) (x4 : Int32) (w0 : xW) (cells slots : Nat) (hcl : cells + (n + 1) * 1 ≤ 601024) (hsl : slots + (n + 1) * 6 ≤ 7293034) (hyp : f_L_law_J1902 xs L k23 x1 x2 x3 x4 w0 = some (Sum.inl (1 : Int32), wF)) : xAW Γ p l e room_1 s m #[Value.ref b] below meth c 9 (lw_Z below #[Value.ref b] s) w0 cells slots 1902 [(0, .ref b), (1, .ref x1), (2, .ref x2), (3, .ref x3), (4, .int x4)] [] := by
  rw [f_L_law_J1902] at hyp
  refine r_aload_n G 1 dL_law_1902 rfl rfl ?_
  refine r_aload_n G 0 dL_law_1903 rfl rfl ?_
  refine r_iload G 4 dL_law_1904 rfl ?_
  refine r_iconst (v := 1) G dL_law_1906 (by decide) ?_
  refine r_iadd G dL_law_1907 ?_
  obtain ⟨h457, hyp⟩ := x_chk hyp
  refine r_sld G hX h457 dL_law_1908 ?_
  refine r_aload_n G 0 dL_law_1909 rfl rfl ?_
  refine r_iload G 4 dL_law_1910 rfl ?_
  refine r_iconst (v := 2) G dL_law_1912 (by decide) ?_
  refine r_iadd G dL_law_1913 ?_
  obtain ⟨h458, hyp⟩ := x_chk hyp
  refine r_sld G hX h458 dL_law_1914 ?_
  refine r_aload_n G 3 dL_law_1915 rfl rfl ?_
  refine r_callLS (ι := xI) (rest := []) (As := [va_rf (some x1), .int (xs ((x4 + 1)).toNatClampNeg), .int (xs ((x4 + 2)).toNatClampNeg), va_rf (some x3)]) G hN tgh_L_differentCells (fun r w' h => ct_L_differentCells (xhl G) _ _ _ _ _ r w' h) hyp ww_1146 ww_1147 (by decide) (by decide) (by first | exact ⟨Nat.le_of_ble_eq_true rfl, Nat.le_of_ble_eq_true rfl⟩ | (constructor <;> (show _ ≤ _; simp only [room_1]; omega))) rfl rfl (xroom (Nat.le_of_ble_eq_true rfl)) dL_law_1916 (push := (fun r460 => [.int r460])) (fun _ => rfl) (fun r460 w459 hyp => ?_)
  refine r_istore (lv' := [(5, .int r460), (0, .ref b), (1, .ref x1), (2, .ref x2), (3, .ref x3), (4, .int x4)]) G dL_law_1919 (by decide) ⟨fun _ => rfl, fun _ => rfl, fun _ => rfl, fun _ => rfl, fun _ => rfl, trivial⟩ rfl ?_
  refine r_aload_n G 3 dL_law_1921 rfl rfl ?_
  refine r_aload_n G 1 dL_law_1922 rfl rfl ?_
  refine r_iload G 5 dL_law_1923 rfl ?_
  refine r_iconst (v := 1) G dL_law_1925 (by decide) ?_
  refine r_iadd G dL_law_1926 ?_
  obtain ⟨h461, hyp⟩ := x_chk hyp
  refine r_sld G hX h461 dL_law_1927 ?_
  refine r_aload_n G 1 dL_law_1928 rfl rfl ?_
  refine r_iload G 5 dL_law_1929 rfl ?_
  refine r_iconst (v := 2) G dL_law_1931 (by decide) ?_
  refine r_iadd G dL_law_1932 ?_
  obtain ⟨h462, hyp⟩ := x_chk hyp
  refine r_sld G hX h462 dL_law_1933 ?_
  obtain ⟨o465, hyp⟩ := x_chk hyp
  refine r_callLV (ι := xI) (T := TX7) (N := 22) (ci := 7) (b := x2) (rest := []) (As := [.int (xs ((x4 + 1)).toNatClampNeg), .int (xs ((x4 + 2)).toNatClampNeg)]) G tg_X7_differentCells (fun r w' h => ct_X7_differentCells (xhl G) _ _ _ _ r w' h) o465 hyp rfl ww_1148 ww_1150 ww_1149 (by decide) (by decide) (by first | exact ⟨Nat.le_of_ble_eq_true rfl, Nat.le_of_ble_eq_true rfl⟩ | (constructor <;> (show _ ≤ _; simp only [room_1]; omega))) rfl rfl (xroom (Nat.le_of_ble_eq_true rfl)) dL_law_1934 (push := (fun r464 => [.int r464])) (fun _ => rfl) (fun r464 w463 hyp => ?_)
  refine r_istore (lv' := [(6, .int r464), (5, .int r460), (0, .ref b), (1, .ref x1), (2, .ref x2), (3, .ref x3), (4, .int x4)]) G dL_law_1937 (by decide) ⟨fun _ => rfl, fun _ => rfl, fun _ => rfl, fun _ => rfl, fun _ => rfl, fun _ => rfl, trivial⟩ rfl ?_
  refine r_aload_n G 4 dL_law_1939 rfl rfl ?_
  obtain ⟨o468, hyp⟩ := x_chk hyp
  refine r_callLV (ι := xI) (T := TX7) (N := 22) (ci := 7) (b := x2) (rest := []) (As := []) G tg_X7_thrown (fun r w' h => ct_X7_thrown (xhl G) _ _ r w' h) o468 hyp rfl ww_996 ww_998 ww_997 (by decide) (by decide) (by first | exact ⟨Nat.le_of_ble_eq_true rfl, Nat.le_of_ble_eq_true rfl⟩ | (constructor <;> (show _ ≤ _; simp only [room_1]; omega))) rfl rfl (xroom (Nat.le_of_ble_eq_true rfl)) dL_law_1940 (push := (fun r467 => [.int r467])) (fun _ => rfl) (fun r467 w466 hyp => ?_)
  refine r_iload G 1 dL_law_1943 rfl ?_
  refine r_icmp_eq G 1950 dL_law_1945 (by decide) hyp (fun c469 hyp => ?_) (fun c469 hyp => ?_)
  · refine r_iload G 1 dL_law_1950 rfl ?_
    refine r_if_ne G 1967 dL_law_1952 (by decide) hyp (fun c470 hyp => ?_) (fun c470 hyp => ?_)
    · refine r_goto G 2578 dL_law_1967 (by decide) ?_
      refine r_iinc (v := (x4 + 7)) (lv' := [(4, .int (x4 + 7)), (6, .int r464), (5, .int r460), (0, .ref b), (1, .ref x1), (2, .ref x2), (3, .ref x3)]) G 6 dL_law_2578 rfl rfl (by decide) ⟨fun _ => rfl, fun _ => rfl, fun _ => rfl, fun _ => rfl, fun _ => rfl, fun _ => rfl, fun _ => rfl, trivial⟩ rfl ?_
      refine r_goto G 23 dL_law_2581 (by decide) ?_
      refine r_weak (lv' := [(0, .ref b), (1, .ref x1), (2, .ref x2), (3, .ref x3), (4, .int (x4 + 7))]) [3, 4, 5, 6, 0] rfl ?_
      exact hk23 x1 x2 x3 (x4 + 7) w466 _ _ (by omega) (by omega) hyp
    · refine r_aload_n G 5 dL_law_1955 rfl rfl ?_
      refine r_iconst (v := 0) G dL_law_1956 (by decide) ?_
      obtain ⟨v471, hv471, hyp⟩ := x_some hyp
      refine r_lald G hv471 dL_law_1957 ?_
      refine r_iload G 0 dL_law_1958 rfl ?_
      refine r_i2l G dL_law_1960 ?_
      refine r_lcmp G dL_law_1961 ?_
      refine r_if_eq G 1967 dL_law_1962 (by decide) hyp (fun c472 hyp => ?_) (fun c472 hyp => ?_)
      · refine r_goto G 2578 dL_law_1967 (by decide) ?_
        refine r_iinc (v := (x4 + 7)) (lv' := [(4, .int (x4 + 7)), (6, .int r464), (5, .int r460), (0, .ref b), (1, .ref x1), (2, .ref x2), (3, .ref x3)]) G 6 dL_law_2578 rfl rfl (by decide) ⟨fun _ => rfl, fun _ => rfl, fun _ => rfl, fun _ => rfl, fun _ => rfl, fun _ => rfl, fun _ => rfl, trivial⟩ rfl ?_
        refine r_goto G 23 dL_law_2581 (by decide) ?_
        refine r_weak (lv' := [(0, .ref b), (1, .ref x1), (2, .ref x2), (3, .ref x3), (4, .int (x4 + 7))]) [3, 4, 5, 6, 0] rfl ?_
        exact hk23 x1 x2 x3 (x4 + 7) w466 _ _ (by omega) (by omega) hyp
      · refine r_iconst (v := 0) G dL_law_1965 (by decide) ?_
        exact r_lwF hyp
  · refine r_iconst (v := 0) G dL_law_1948 (by decide) ?_
    exact r_lwF hyp
end
section
variable {Γ : xG} {p : Program} {l : Launch} {e : Env} {s : State} {m : MethodId} {below : List Frame} {meth : Method} {c : Code} {wF : xW} {b L : Nat} {xs : Nat → Int32}
set_option maxRecDepth 100000 in
set_option maxHeartbeats 4000000 in
theorem nd_L_law_J1970 {k23 : Nat → Nat → Nat → Int32 → xW → xO Int32} (G : xCx Γ p l s m #[Value.ref b] meth c RL cL_law 9 (some .boolean)) (hN : xNc s) (hX : xSc Γ b L xs s) (n : Nat) (hk23 : ∀ (x1 : Nat) (x2 : Nat) (x3 : Nat) (x4 : Int32) (w : xW) (cells slots : Nat), cells + n * 1 ≤ 601024 → slots + n * 6 ≤ 7293034 → k23 x1 x2 x3 x4 w = some (Sum.inl (1 : Int32), wF) → xAW Γ p l e room_1 s m #[Value.ref b] below meth c 9 (lw_Z below #[Value.ref b] s) w cells slots 23 [(0, .ref b), (1, .ref x1), (2, .ref x2), (3, .ref x3), (4, .int x4)] []) (x1 : Nat) (x2 : Nat) (x3 : Nat) (x4 : Int32) (w0 : xW) (cells slots : Nat) (hcl : cells + (n + 1) * 1 ≤ 601024) (hsl : slots + (n + 1) * 6 ≤ 7293034) (hyp : f_L_law_J1970 xs L k23 x1 x2 x3 x4 w0 = some (Sum.inl (1 : Int32), wF)) : xAW Γ p l e room_1 s m #[Value.ref b] below meth c 9 (lw_Z below #[Value.ref b] s) w0 cells slots 1970 [(0, .ref b), (1, .ref x1), (2, .ref x2), (3, .ref x3), (4, .int x4)] [] := by
  rw [f_L_law_J1970] at hyp
  refine r_aload_n G 1 dL_law_1970 rfl rfl ?_
  refine r_aload_n G 0 dL_law_1971 rfl rfl ?_
  refine r_iload G 4 dL_law_1972 rfl ?_
  refine r_iconst (v := 1) G dL_law_1974 (by decide) ?_
  refine r_iadd G dL_law_1975 ?_
  obtain ⟨h474, hyp⟩ := x_chk hyp
  refine r_sld G hX h474 dL_law_1976 ?_
  refine r_aload_n G 3 dL_law_1977 rfl rfl ?_
  refine r_callLS (ι := xI) (rest := []) (As := [va_rf (some x1), .int (xs ((x4 + 1)).toNatClampNeg), va_rf (some x3)]) G hN tgh_L_layerByPaint (fun r w' h => ct_L_layerByPaint (xhl G) _ _ _ _ r w' h) hyp ww_1151 ww_1152 (by decide) (by decide) (by first | exact ⟨Nat.le_of_ble_eq_true rfl, Nat.le_of_ble_eq_true rfl⟩ | (constructor <;> (show _ ≤ _; simp only [room_1]; omega))) rfl rfl (xroom (Nat.le_of_ble_eq_true rfl)) dL_law_1978 (push := (fun r476 => [.int r476])) (fun _ => rfl) (fun r476 w475 hyp => ?_)
  refine r_istore (lv' := [(5, .int r476), (0, .ref b), (1, .ref x1), (2, .ref x2), (3, .ref x3), (4, .int x4)]) G dL_law_1981 (by decide) ⟨fun _ => rfl, fun _ => rfl, fun _ => rfl, fun _ => rfl, fun _ => rfl, trivial⟩ rfl ?_
  refine r_aload_n G 3 dL_law_1983 rfl rfl ?_
  refine r_aload_n G 1 dL_law_1984 rfl rfl ?_
  refine r_iload G 5 dL_law_1985 rfl ?_
  refine r_iconst (v := 1) G dL_law_1987 (by decide) ?_
  refine r_iadd G dL_law_1988 ?_
  obtain ⟨h477, hyp⟩ := x_chk hyp
  refine r_sld G hX h477 dL_law_1989 ?_
  obtain ⟨o480, hyp⟩ := x_chk hyp
  refine r_callLV (ι := xI) (T := TX7) (N := 22) (ci := 7) (b := x2) (rest := []) (As := [.int (xs ((x4 + 1)).toNatClampNeg)]) G tg_X7_layerByPaint (fun r w' h => ct_X7_layerByPaint (xhl G) _ _ _ r w' h) o480 hyp rfl ww_1153 ww_1155 ww_1154 (by decide) (by decide) (by first | exact ⟨Nat.le_of_ble_eq_true rfl, Nat.le_of_ble_eq_true rfl⟩ | (constructor <;> (show _ ≤ _; simp only [room_1]; omega))) rfl rfl (xroom (Nat.le_of_ble_eq_true rfl)) dL_law_1990 (push := (fun r479 => [.int r479])) (fun _ => rfl) (fun r479 w478 hyp => ?_)
  refine r_istore (lv' := [(6, .int r479), (5, .int r476), (0, .ref b), (1, .ref x1), (2, .ref x2), (3, .ref x3), (4, .int x4)]) G dL_law_1993 (by decide) ⟨fun _ => rfl, fun _ => rfl, fun _ => rfl, fun _ => rfl, fun _ => rfl, fun _ => rfl, trivial⟩ rfl ?_
  refine r_aload_n G 4 dL_law_1995 rfl rfl ?_
  obtain ⟨o483, hyp⟩ := x_chk hyp
  refine r_callLV (ι := xI) (T := TX7) (N := 22) (ci := 7) (b := x2) (rest := []) (As := []) G tg_X7_thrown (fun r w' h => ct_X7_thrown (xhl G) _ _ r w' h) o483 hyp rfl ww_996 ww_998 ww_997 (by decide) (by decide) (by first | exact ⟨Nat.le_of_ble_eq_true rfl, Nat.le_of_ble_eq_true rfl⟩ | (constructor <;> (show _ ≤ _; simp only [room_1]; omega))) rfl rfl (xroom (Nat.le_of_ble_eq_true rfl)) dL_law_1996 (push := (fun r482 => [.int r482])) (fun _ => rfl) (fun r482 w481 hyp => ?_)
  refine r_iload G 1 dL_law_1999 rfl ?_
  refine r_icmp_eq G 2006 dL_law_2001 (by decide) hyp (fun c484 hyp => ?_) (fun c484 hyp => ?_)
  · refine r_iload G 1 dL_law_2006 rfl ?_
    refine r_if_ne G 2023 dL_law_2008 (by decide) hyp (fun c485 hyp => ?_) (fun c485 hyp => ?_)
    · refine r_goto G 2578 dL_law_2023 (by decide) ?_
      refine r_iinc (v := (x4 + 7)) (lv' := [(4, .int (x4 + 7)), (6, .int r479), (5, .int r476), (0, .ref b), (1, .ref x1), (2, .ref x2), (3, .ref x3)]) G 6 dL_law_2578 rfl rfl (by decide) ⟨fun _ => rfl, fun _ => rfl, fun _ => rfl, fun _ => rfl, fun _ => rfl, fun _ => rfl, fun _ => rfl, trivial⟩ rfl ?_
      refine r_goto G 23 dL_law_2581 (by decide) ?_
      refine r_weak (lv' := [(0, .ref b), (1, .ref x1), (2, .ref x2), (3, .ref x3), (4, .int (x4 + 7))]) [3, 4, 5, 6, 0] rfl ?_
      exact hk23 x1 x2 x3 (x4 + 7) w481 _ _ (by omega) (by omega) hyp
    · refine r_aload_n G 5 dL_law_2011 rfl rfl ?_
      refine r_iconst (v := 0) G dL_law_2012 (by decide) ?_
      obtain ⟨v486, hv486, hyp⟩ := x_some hyp
      refine r_lald G hv486 dL_law_2013 ?_
      refine r_iload G 0 dL_law_2014 rfl ?_
      refine r_i2l G dL_law_2016 ?_
      refine r_lcmp G dL_law_2017 ?_
      refine r_if_eq G 2023 dL_law_2018 (by decide) hyp (fun c487 hyp => ?_) (fun c487 hyp => ?_)
      · refine r_goto G 2578 dL_law_2023 (by decide) ?_
        refine r_iinc (v := (x4 + 7)) (lv' := [(4, .int (x4 + 7)), (6, .int r479), (5, .int r476), (0, .ref b), (1, .ref x1), (2, .ref x2), (3, .ref x3)]) G 6 dL_law_2578 rfl rfl (by decide) ⟨fun _ => rfl, fun _ => rfl, fun _ => rfl, fun _ => rfl, fun _ => rfl, fun _ => rfl, fun _ => rfl, trivial⟩ rfl ?_
        refine r_goto G 23 dL_law_2581 (by decide) ?_
        refine r_weak (lv' := [(0, .ref b), (1, .ref x1), (2, .ref x2), (3, .ref x3), (4, .int (x4 + 7))]) [3, 4, 5, 6, 0] rfl ?_
        exact hk23 x1 x2 x3 (x4 + 7) w481 _ _ (by omega) (by omega) hyp
      · refine r_iconst (v := 0) G dL_law_2021 (by decide) ?_
        exact r_lwF hyp
  · refine r_iconst (v := 0) G dL_law_2004 (by decide) ?_
    exact r_lwF hyp
end
section
variable {Γ : xG} {p : Program} {l : Launch} {e : Env} {s : State} {m : MethodId} {below : List Frame} {meth : Method} {c : Code} {wF : xW} {b L : Nat} {xs : Nat → Int32}
set_option maxRecDepth 100000 in
set_option maxHeartbeats 4000000 in
theorem nd_L_law_J2026 {k23 : Nat → Nat → Nat → Int32 → xW → xO Int32} (G : xCx Γ p l s m #[Value.ref b] meth c RL cL_law 9 (some .boolean)) (hN : xNc s) (hX : xSc Γ b L xs s) (n : Nat) (hk23 : ∀ (x1 : Nat) (x2 : Nat) (x3 : Nat) (x4 : Int32) (w : xW) (cells slots : Nat), cells + n * 1 ≤ 601024 → slots + n * 6 ≤ 7293034 → k23 x1 x2 x3 x4 w = some (Sum.inl (1 : Int32), wF) → xAW Γ p l e room_1 s m #[Value.ref b] below meth c 9 (lw_Z below #[Value.ref b] s) w cells slots 23 [(0, .ref b), (1, .ref x1), (2, .ref x2), (3, .ref x3), (4, .int x4)] []) (x1 : Nat) (x2 : Nat) (x3 : Nat) (x4 : Int32) (w0 : xW) (cells slots : Nat) (hcl : cells + (n + 1) * 1 ≤ 601024) (hsl : slots + (n + 1) * 6 ≤ 7293034) (hyp : f_L_law_J2026 xs L k23 x1 x2 x3 x4 w0 = some (Sum.inl (1 : Int32), wF)) : xAW Γ p l e room_1 s m #[Value.ref b] below meth c 9 (lw_Z below #[Value.ref b] s) w0 cells slots 2026 [(0, .ref b), (1, .ref x1), (2, .ref x2), (3, .ref x3), (4, .int x4)] [] := by
  rw [f_L_law_J2026] at hyp
  refine r_aload_n G 1 dL_law_2026 rfl rfl ?_
  obtain ⟨o491, hyp⟩ := x_chk hyp
  refine r_callLV (ι := xI) (T := TX6) (N := 9) (ci := 6) (b := x1) (rest := []) (As := []) G tg_X6_paintedCells (fun r w' h => ct_X6_paintedCells (xhl G) _ _ r w' h) o491 hyp rfl ww_1156 ww_1158 ww_1157 (by decide) (by decide) (by first | exact ⟨Nat.le_of_ble_eq_true rfl, Nat.le_of_ble_eq_true rfl⟩ | (constructor <;> (show _ ≤ _; simp only [room_1]; omega))) rfl rfl (xroom (Nat.le_of_ble_eq_true rfl)) dL_law_2027 (push := (fun r490 => [.int r490])) (fun _ => rfl) (fun r490 w489 hyp => ?_)
  refine r_aload_n G 2 dL_law_2030 rfl rfl ?_
  obtain ⟨o494, hyp⟩ := x_chk hyp
  refine r_callLV (ι := xI) (T := TX7) (N := 22) (ci := 7) (b := x2) (rest := [.int r490]) (As := []) G tg_X7_paintedCells (fun r w' h => ct_X7_paintedCells (xhl G) _ _ r w' h) o494 hyp rfl ww_1159 ww_1161 ww_1160 (by decide) (by decide) (by first | exact ⟨Nat.le_of_ble_eq_true rfl, Nat.le_of_ble_eq_true rfl⟩ | (constructor <;> (show _ ≤ _; simp only [room_1]; omega))) rfl rfl (xroom (Nat.le_of_ble_eq_true rfl)) dL_law_2031 (push := (fun r493 => [.int r493, .int r490])) (fun _ => rfl) (fun r493 w492 hyp => ?_)
  refine r_icmp_eq G 2578 dL_law_2034 (by decide) hyp (fun c495 hyp => ?_) (fun c495 hyp => ?_)
  · refine r_iinc (v := (x4 + 7)) (lv' := [(4, .int (x4 + 7)), (0, .ref b), (1, .ref x1), (2, .ref x2), (3, .ref x3)]) G 4 dL_law_2578 rfl rfl (by decide) ⟨fun _ => rfl, fun _ => rfl, fun _ => rfl, fun _ => rfl, fun _ => rfl, trivial⟩ rfl ?_
    refine r_goto G 23 dL_law_2581 (by decide) ?_
    refine r_weak (lv' := [(0, .ref b), (1, .ref x1), (2, .ref x2), (3, .ref x3), (4, .int (x4 + 7))]) [1, 2, 3, 4, 0] rfl ?_
    exact hk23 x1 x2 x3 (x4 + 7) w492 _ _ (by omega) (by omega) hyp
  · refine r_iconst (v := 0) G dL_law_2037 (by decide) ?_
    exact r_lwF hyp
end
section
variable {Γ : xG} {p : Program} {l : Launch} {e : Env} {s : State} {m : MethodId} {below : List Frame} {meth : Method} {c : Code} {wF : xW} {b L : Nat} {xs : Nat → Int32}
set_option maxRecDepth 100000 in
set_option maxHeartbeats 4000000 in
theorem nd_L_law_J2039 {k23 : Nat → Nat → Nat → Int32 → xW → xO Int32} (G : xCx Γ p l s m #[Value.ref b] meth c RL cL_law 9 (some .boolean)) (hN : xNc s) (hX : xSc Γ b L xs s) (n : Nat) (hk23 : ∀ (x1 : Nat) (x2 : Nat) (x3 : Nat) (x4 : Int32) (w : xW) (cells slots : Nat), cells + n * 1 ≤ 601024 → slots + n * 6 ≤ 7293034 → k23 x1 x2 x3 x4 w = some (Sum.inl (1 : Int32), wF) → xAW Γ p l e room_1 s m #[Value.ref b] below meth c 9 (lw_Z below #[Value.ref b] s) w cells slots 23 [(0, .ref b), (1, .ref x1), (2, .ref x2), (3, .ref x3), (4, .int x4)] []) (x1 : Nat) (x2 : Nat) (x3 : Nat) (x4 : Int32) (w0 : xW) (cells slots : Nat) (hcl : cells + (n + 1) * 1 ≤ 601024) (hsl : slots + (n + 1) * 6 ≤ 7293034) (hyp : f_L_law_J2039 xs L k23 x1 x2 x3 x4 w0 = some (Sum.inl (1 : Int32), wF)) : xAW Γ p l e room_1 s m #[Value.ref b] below meth c 9 (lw_Z below #[Value.ref b] s) w0 cells slots 2039 [(0, .ref b), (1, .ref x1), (2, .ref x2), (3, .ref x3), (4, .int x4)] [] := by
  rw [f_L_law_J2039] at hyp
  refine r_aload_n G 1 dL_law_2039 rfl rfl ?_
  obtain ⟨o499, hyp⟩ := x_chk hyp
  refine r_callLV (ι := xI) (T := TX6) (N := 9) (ci := 6) (b := x1) (rest := []) (As := []) G tg_X6_erasedCells (fun r w' h => ct_X6_erasedCells (xhl G) _ _ r w' h) o499 hyp rfl ww_1162 ww_1164 ww_1163 (by decide) (by decide) (by first | exact ⟨Nat.le_of_ble_eq_true rfl, Nat.le_of_ble_eq_true rfl⟩ | (constructor <;> (show _ ≤ _; simp only [room_1]; omega))) rfl rfl (xroom (Nat.le_of_ble_eq_true rfl)) dL_law_2040 (push := (fun r498 => [.int r498])) (fun _ => rfl) (fun r498 w497 hyp => ?_)
  refine r_aload_n G 2 dL_law_2043 rfl rfl ?_
  obtain ⟨o502, hyp⟩ := x_chk hyp
  refine r_callLV (ι := xI) (T := TX7) (N := 22) (ci := 7) (b := x2) (rest := [.int r498]) (As := []) G tg_X7_erasedCells (fun r w' h => ct_X7_erasedCells (xhl G) _ _ r w' h) o502 hyp rfl ww_1165 ww_1167 ww_1166 (by decide) (by decide) (by first | exact ⟨Nat.le_of_ble_eq_true rfl, Nat.le_of_ble_eq_true rfl⟩ | (constructor <;> (show _ ≤ _; simp only [room_1]; omega))) rfl rfl (xroom (Nat.le_of_ble_eq_true rfl)) dL_law_2044 (push := (fun r501 => [.int r501, .int r498])) (fun _ => rfl) (fun r501 w500 hyp => ?_)
  refine r_icmp_eq G 2578 dL_law_2047 (by decide) hyp (fun c503 hyp => ?_) (fun c503 hyp => ?_)
  · refine r_iinc (v := (x4 + 7)) (lv' := [(4, .int (x4 + 7)), (0, .ref b), (1, .ref x1), (2, .ref x2), (3, .ref x3)]) G 4 dL_law_2578 rfl rfl (by decide) ⟨fun _ => rfl, fun _ => rfl, fun _ => rfl, fun _ => rfl, fun _ => rfl, trivial⟩ rfl ?_
    refine r_goto G 23 dL_law_2581 (by decide) ?_
    refine r_weak (lv' := [(0, .ref b), (1, .ref x1), (2, .ref x2), (3, .ref x3), (4, .int (x4 + 7))]) [1, 2, 3, 4, 0] rfl ?_
    exact hk23 x1 x2 x3 (x4 + 7) w500 _ _ (by omega) (by omega) hyp
  · refine r_iconst (v := 0) G dL_law_2050 (by decide) ?_
    exact r_lwF hyp
end
