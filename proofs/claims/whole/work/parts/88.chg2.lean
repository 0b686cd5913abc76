/-! ===== the nine calls that change ===== -/
def hA1S2 : String → Int32 := fun E => if E = IAE then 1 else if E = ISE then 2 else 0
def hI1S2 : String → Int32 := fun E => if E = IOB then 1 else if E = ISE then 2 else 0
def hI1N2U3 : String → Int32 := fun E => if E = IOB then 1 else if E = NSE then 2 else if E = UOE then 3 else 0
def hI1A2S3 : String → Int32 := fun E => if E = IOB then 1 else if E = IAE then 2 else if E = ISE then 3 else 0
section CI
variable {w : xW} {z : Nat} {γ : CG} {F : Nat → Int32} {ar : Nat → Nat → Int32}
theorem S_addLayer (C : Cls w z γ) (R : Rel γ F ar) (x : Int32) : Sbs z w (f_X6_addLayer z x w) (f_X7_addLayer (z + 168) x) hA1S2 F ar := by
  have h : Sbs z w (CopE z (fun w4 => (x_getr w4 z 6 0).bind fun v7 => (v7).elim none fun a8 => if x_isO w4 a8 4 = true then (x_bind (f_X4_addOnTop a8 x w4) (fun v w9 => if v = (-3) then (x_thr IAE w9) else (if v = (-4) then (x_thr ISE w9) else (CmE z v w9)))) else none) w) (MopE (z + 168) (f_X7_adds (z + 168) x)) hA1S2 F ar := by
    refine S_chg (cd := cdA) (l := [-3, -4]) (r := addG γ.g x) (E := fun v => if v = (-3) then IAE else ISE) (TL := fun v w9 => if v = (-3) then (x_thr IAE w9) else (if v = (-4) then (x_thr ISE w9) else (CmE z v w9))) C R (fun w1 F1 ar1 M1 r1 => X7_adds M1 r1 C.i x) (addG_v γ.g C.L.n6 x) (by decide) (by decide) (fun _ hk => cdA_nI hk) (fun w1 γ1 C1 hg => ?_) (fun v w9 hv => ?_) (fun v w9 hv => ?_)
    · obtain ⟨w2, e, C2, f2⟩ := C_run C1 (X4_addOnTop C1.L x)
      rw [hg] at e C2
      refine ⟨w2, ?_, C2, f2⟩
      show (x_getr w1 z 6 0).bind _ = _
      rw [C1.r0, ob, oe, if_pos C1.L.o, e, x_br]
    · have hv' : v = (-3) ∨ v = (-4) := by simpa using hv
      rcases hv' with rfl | rfl
      · refine ⟨?_, by decide⟩
        show (if (-3 : Int32) = (-3) then (x_thr IAE w9) else (if (-3 : Int32) = (-4) then (x_thr ISE w9) else (CmE z (-3) w9))) = x_thr (if (-3 : Int32) = (-3) then IAE else ISE) w9
        rw [if_pos rfl, if_pos rfl]
      · refine ⟨?_, by decide⟩
        show (if (-4 : Int32) = (-3) then (x_thr IAE w9) else (if (-4 : Int32) = (-4) then (x_thr ISE w9) else (CmE z (-4) w9))) = x_thr (if (-4 : Int32) = (-3) then IAE else ISE) w9
        rw [if_neg (by decide), if_pos rfl, if_neg (by decide)]
    · show (if v = (-3) then (x_thr IAE w9) else (if v = (-4) then (x_thr ISE w9) else (CmE z v w9))) = _
      rw [if_neg (fun hc => hv (by rw [hc]; simp)), if_neg (fun hc => hv (by rw [hc]; simp))]
  exact h
theorem S_removeLayer (C : Cls w z γ) (R : Rel γ F ar) (p : Int32) : Sbs z w (f_X6_removeLayer z p w) (f_X7_removeLayer (z + 168) p) hI1 F ar := by
  have h : Sbs z w (CopE z (fun w4 => (x_getr w4 z 6 0).bind fun v7 => (v7).elim none fun a8 => if x_isO w4 a8 4 = true then (x_bind (f_X4_takeAway a8 p w4) (fun v w9 => if v = (-2) then (x_thr IOB w9) else (CmE z v w9))) else none) w) (MopE (z + 168) (f_X7_drops (z + 168) p)) hI1 F ar := by
    refine S_chg (cd := cdD) (l := [-2]) (r := dropG γ.g p) (E := fun v => IOB) (TL := fun v w9 => if v = (-2) then (x_thr IOB w9) else (CmE z v w9)) C R (fun w1 F1 ar1 M1 r1 => X7_drops M1 r1 p) (dropG_v γ.g C.L.n6 p) (by decide) (by decide) (fun _ hk => cdD_nI hk) (fun w1 γ1 C1 hg => ?_) (fun v w9 hv => ?_) (fun v w9 hv => ?_)
    · obtain ⟨w2, e, C2, f2⟩ := C_run C1 (X4_takeAway C1.L p)
      rw [hg] at e C2
      refine ⟨w2, ?_, C2, f2⟩
      show (x_getr w1 z 6 0).bind _ = _
      rw [C1.r0, ob, oe, if_pos C1.L.o, e, x_br]
    · obtain rfl : v = _ := List.mem_singleton.mp hv
      exact ⟨if_pos rfl, by decide⟩
    · show (if v = (-2) then (x_thr IOB w9) else (CmE z v w9)) = _
      rw [if_neg (fun hc => hv (by rw [hc]; simp))]
  exact h
theorem S_paint (C : Cls w z γ) (R : Rel γ F ar) (p l u r lo x : Int32) : Sbs z w (f_X6_paint z p l u r lo x w) (f_X7_paint (z + 168) p l u r lo x) hI1A2 F ar := by
  have h : Sbs z w (CopE z (fun w4 => (x_getr w4 z 6 0).bind fun v7 => (v7).elim none fun a8 => if x_isO w4 a8 4 = true then (x_bind (f_X4_paintRectangle a8 p l u r lo x w4) (fun v w9 => if v = (-2) then (x_thr IOB w9) else (if v = (-3) then (x_thr IAE w9) else (CmE z v w9)))) else none) w) (MopE (z + 168) (f_X7_paints (z + 168) p l u r lo x)) hI1A2 F ar := by
    refine S_chg (cd := cdP) (l := [-2, -3]) (r := paintG γ.g p l u r lo x) (E := fun v => if v = (-2) then IOB else IAE) (TL := fun v w9 => if v = (-2) then (x_thr IOB w9) else (if v = (-3) then (x_thr IAE w9) else (CmE z v w9))) C R (fun w1 F1 ar1 M1 r1 => X7_paints M1 r1 C.i p l u r lo x) (paintG_v γ.g p l u r lo x) (by decide) (by decide) (fun _ hk => cdP_nI hk) (fun w1 γ1 C1 hg => ?_) (fun v w9 hv => ?_) (fun v w9 hv => ?_)
    · obtain ⟨w2, e, C2, f2⟩ := C_run C1 (X4_paintRectangle C1.L p l u r lo x)
      rw [hg] at e C2
      refine ⟨w2, ?_, C2, f2⟩
      show (x_getr w1 z 6 0).bind _ = _
      rw [C1.r0, ob, oe, if_pos C1.L.o, e, x_br]
    · have hv' : v = (-2) ∨ v = (-3) := by simpa using hv
      rcases hv' with rfl | rfl
      · refine ⟨?_, by decide⟩
        show (if (-2 : Int32) = (-2) then (x_thr IOB w9) else (if (-2 : Int32) = (-3) then (x_thr IAE w9) else (CmE z (-2) w9))) = x_thr (if (-2 : Int32) = (-2) then IOB else IAE) w9
        rw [if_pos rfl, if_pos rfl]
      · refine ⟨?_, by decide⟩
        show (if (-3 : Int32) = (-2) then (x_thr IOB w9) else (if (-3 : Int32) = (-3) then (x_thr IAE w9) else (CmE z (-3) w9))) = x_thr (if (-3 : Int32) = (-2) then IOB else IAE) w9
        rw [if_neg (by decide), if_pos rfl, if_neg (by decide)]
    · show (if v = (-2) then (x_thr IOB w9) else (if v = (-3) then (x_thr IAE w9) else (CmE z v w9))) = _
      rw [if_neg (fun hc => hv (by rw [hc]; simp)), if_neg (fun hc => hv (by rw [hc]; simp))]
  exact h
theorem S_erase (C : Cls w z γ) (R : Rel γ F ar) (p x y r : Int32) : Sbs z w (f_X6_erase z p x y r w) (f_X7_erase (z + 168) p x y r) hI1A2 F ar := by
  have h : Sbs z w (CopE z (fun w4 => (x_getr w4 z 6 0).bind fun v7 => (v7).elim none fun a8 => if x_isO w4 a8 4 = true then (x_bind (f_X4_eraseCircle a8 p x y r w4) (fun v w9 => if v = (-2) then (x_thr IOB w9) else (if v = (-3) then (x_thr IAE w9) else (CmE z v w9)))) else none) w) (MopE (z + 168) (f_X7_erases (z + 168) p x y r)) hI1A2 F ar := by
    refine S_chg (cd := cdP) (l := [-2, -3]) (r := eraseG γ.g p x y r) (E := fun v => if v = (-2) then IOB else IAE) (TL := fun v w9 => if v = (-2) then (x_thr IOB w9) else (if v = (-3) then (x_thr IAE w9) else (CmE z v w9))) C R (fun w1 F1 ar1 M1 r1 => X7_erases M1 r1 C.i p x y r) (eraseG_v γ.g p x y r) (by decide) (by decide) (fun _ hk => cdP_nI hk) (fun w1 γ1 C1 hg => ?_) (fun v w9 hv => ?_) (fun v w9 hv => ?_)
    · obtain ⟨w2, e, C2, f2⟩ := C_run C1 (X4_eraseCircle C1.L p x y r)
      rw [hg] at e C2
      refine ⟨w2, ?_, C2, f2⟩
      show (x_getr w1 z 6 0).bind _ = _
      rw [C1.r0, ob, oe, if_pos C1.L.o, e, x_br]
    · have hv' : v = (-2) ∨ v = (-3) := by simpa using hv
      rcases hv' with rfl | rfl
      · refine ⟨?_, by decide⟩
        show (if (-2 : Int32) = (-2) then (x_thr IOB w9) else (if (-2 : Int32) = (-3) then (x_thr IAE w9) else (CmE z (-2) w9))) = x_thr (if (-2 : Int32) = (-2) then IOB else IAE) w9
        rw [if_pos rfl, if_pos rfl]
      · refine ⟨?_, by decide⟩
        show (if (-3 : Int32) = (-2) then (x_thr IOB w9) else (if (-3 : Int32) = (-3) then (x_thr IAE w9) else (CmE z (-3) w9))) = x_thr (if (-3 : Int32) = (-2) then IOB else IAE) w9
        rw [if_neg (by decide), if_pos rfl, if_neg (by decide)]
    · show (if v = (-2) then (x_thr IOB w9) else (if v = (-3) then (x_thr IAE w9) else (CmE z v w9))) = _
      rw [if_neg (fun hc => hv (by rw [hc]; simp)), if_neg (fun hc => hv (by rw [hc]; simp))]
  exact h
theorem S_hide (C : Cls w z γ) (R : Rel γ F ar) (p : Int32) : Sbs z w (f_X6_hide z p w) (f_X7_hide (z + 168) p) hI1S2 F ar := by
  have h : Sbs z w (CopE z (fun w4 => (x_getr w4 z 6 0).bind fun v7 => (v7).elim none fun a8 => if x_isO w4 a8 4 = true then (x_bind (f_X4_turnVisible a8 p 0 w4) (fun v w9 => if v = (-2) then (x_thr IOB w9) else (if v = (-4) then (x_thr ISE w9) else (CmE z v w9)))) else none) w) (MopE (z + 168) (f_X7_turns (z + 168) p 0)) hI1S2 F ar := by
    refine S_chg (cd := cdT) (l := [-2, -4]) (r := turnG γ.g p 0) (E := fun v => if v = (-2) then IOB else ISE) (TL := fun v w9 => if v = (-2) then (x_thr IOB w9) else (if v = (-4) then (x_thr ISE w9) else (CmE z v w9))) C R (fun w1 F1 ar1 M1 r1 => X7_turns M1 r1 C.i p (y := 0) (Or.inl rfl)) (turnG_v γ.g C.L.n6 p 0) (by decide) (by decide) (fun _ hk => cdT_nI hk) (fun w1 γ1 C1 hg => ?_) (fun v w9 hv => ?_) (fun v w9 hv => ?_)
    · obtain ⟨w2, e, C2, f2⟩ := C_run C1 (X4_turnVisible C1.L p (y := 0) (by decide))
      rw [hg] at e C2
      refine ⟨w2, ?_, C2, f2⟩
      show (x_getr w1 z 6 0).bind _ = _
      rw [C1.r0, ob, oe, if_pos C1.L.o, e, x_br]
    · have hv' : v = (-2) ∨ v = (-4) := by simpa using hv
      rcases hv' with rfl | rfl
      · refine ⟨?_, by decide⟩
        show (if (-2 : Int32) = (-2) then (x_thr IOB w9) else (if (-2 : Int32) = (-4) then (x_thr ISE w9) else (CmE z (-2) w9))) = x_thr (if (-2 : Int32) = (-2) then IOB else ISE) w9
        rw [if_pos rfl, if_pos rfl]
      · refine ⟨?_, by decide⟩
        show (if (-4 : Int32) = (-2) then (x_thr IOB w9) else (if (-4 : Int32) = (-4) then (x_thr ISE w9) else (CmE z (-4) w9))) = x_thr (if (-4 : Int32) = (-2) then IOB else ISE) w9
        rw [if_neg (by decide), if_pos rfl, if_neg (by decide)]
    · show (if v = (-2) then (x_thr IOB w9) else (if v = (-4) then (x_thr ISE w9) else (CmE z v w9))) = _
      rw [if_neg (fun hc => hv (by rw [hc]; simp)), if_neg (fun hc => hv (by rw [hc]; simp))]
  exact h
theorem S_show (C : Cls w z γ) (R : Rel γ F ar) (p : Int32) : Sbs z w (f_X6_show z p w) (f_X7_show (z + 168) p) hI1S2 F ar := by
  have h : Sbs z w (CopE z (fun w4 => (x_getr w4 z 6 0).bind fun v7 => (v7).elim none fun a8 => if x_isO w4 a8 4 = true then (x_bind (f_X4_turnVisible a8 p 1 w4) (fun v w9 => if v = (-2) then (x_thr IOB w9) else (if v = (-4) then (x_thr ISE w9) else (CmE z v w9)))) else none) w) (MopE (z + 168) (f_X7_turns (z + 168) p 1)) hI1S2 F ar := by
    refine S_chg (cd := cdT) (l := [-2, -4]) (r := turnG γ.g p 1) (E := fun v => if v = (-2) then IOB else ISE) (TL := fun v w9 => if v = (-2) then (x_thr IOB w9) else (if v = (-4) then (x_thr ISE w9) else (CmE z v w9))) C R (fun w1 F1 ar1 M1 r1 => X7_turns M1 r1 C.i p (y := 1) (Or.inr rfl)) (turnG_v γ.g C.L.n6 p 1) (by decide) (by decide) (fun _ hk => cdT_nI hk) (fun w1 γ1 C1 hg => ?_) (fun v w9 hv => ?_) (fun v w9 hv => ?_)
    · obtain ⟨w2, e, C2, f2⟩ := C_run C1 (X4_turnVisible C1.L p (y := 1) (by decide))
      rw [hg] at e C2
      refine ⟨w2, ?_, C2, f2⟩
      show (x_getr w1 z 6 0).bind _ = _
      rw [C1.r0, ob, oe, if_pos C1.L.o, e, x_br]
    · have hv' : v = (-2) ∨ v = (-4) := by simpa using hv
      rcases hv' with rfl | rfl
      · refine ⟨?_, by decide⟩
        show (if (-2 : Int32) = (-2) then (x_thr IOB w9) else (if (-2 : Int32) = (-4) then (x_thr ISE w9) else (CmE z (-2) w9))) = x_thr (if (-2 : Int32) = (-2) then IOB else ISE) w9
        rw [if_pos rfl, if_pos rfl]
      · refine ⟨?_, by decide⟩
        show (if (-4 : Int32) = (-2) then (x_thr IOB w9) else (if (-4 : Int32) = (-4) then (x_thr ISE w9) else (CmE z (-4) w9))) = x_thr (if (-4 : Int32) = (-2) then IOB else ISE) w9
        rw [if_neg (by decide), if_pos rfl, if_neg (by decide)]
    · show (if v = (-2) then (x_thr IOB w9) else (if v = (-4) then (x_thr ISE w9) else (CmE z v w9))) = _
      rw [if_neg (fun hc => hv (by rw [hc]; simp)), if_neg (fun hc => hv (by rw [hc]; simp))]
  exact h
theorem S_moveLayer (C : Cls w z γ) (R : Rel γ F ar) (p q : Int32) : Sbs z w (f_X6_moveLayer z p q w) (f_X7_moveLayer (z + 168) p q) hI1 F ar := by
  have h : Sbs z w (CopE z (fun w4 => if x_isO w4 z 6 = true then (x_bind (f_X6_moveAndCompare z p q w4) (fun v w9 => if v = (-2) then (x_thr IOB w9) else (CmE z v w9))) else none) w) (MopE (z + 168) (f_X7_moves (z + 168) p q)) hI1 F ar := by
    refine S_chg (cd := cdD) (l := [-2]) (r := moveG γ.g p q) (E := fun v => IOB) (TL := fun v w9 => if v = (-2) then (x_thr IOB w9) else (CmE z v w9)) C R (fun w1 F1 ar1 M1 r1 => X7_moves M1 r1 p q) (moveG_v γ.g p q) (by decide) (by decide) (fun _ hk => cdD_nI hk) (fun w1 γ1 C1 hg => ?_) (fun v w9 hv => ?_) (fun v w9 hv => ?_)
    · obtain ⟨w2, e, C2, f2⟩ := C_move C1 p q
      rw [hg] at e C2
      refine ⟨w2, ?_, C2, f2⟩
      show (if x_isO w1 z 6 = true then (x_bind (f_X6_moveAndCompare z p q w1) (fun v w9 => if v = (-2) then (x_thr IOB w9) else (CmE z v w9))) else none) = _
      rw [if_pos C1.o, e, x_br]
    · obtain rfl : v = _ := List.mem_singleton.mp hv
      exact ⟨if_pos rfl, by decide⟩
    · show (if v = (-2) then (x_thr IOB w9) else (CmE z v w9)) = _
      rw [if_neg (fun hc => hv (by rw [hc]; simp))]
  exact h
theorem S_mergeDown (C : Cls w z γ) (R : Rel γ F ar) (p : Int32) : Sbs z w (f_X6_mergeDown z p w) (f_X7_mergeDown (z + 168) p) hI1N2U3 F ar := by
  have h : Sbs z w (CopE z (fun w4 => (x_getr w4 z 6 0).bind fun v7 => (v7).elim none fun a8 => if x_isO w4 a8 4 = true then (x_bind (f_X4_mergeWithLower a8 p w4) (fun v w9 => if v = (-2) then (x_thr IOB w9) else (if v = (-5) then (x_thr NSE w9) else (if v = (-6) then (x_thr UOE w9) else (CmE z v w9))))) else none) w) (MopE (z + 168) (f_X7_merges (z + 168) p)) hI1N2U3 F ar := by
    refine S_chg (cd := cdM) (l := [-2, -5, -6]) (r := mergeG γ.g p) (E := fun v => if v = (-2) then IOB else if v = (-5) then NSE else UOE) (TL := fun v w9 => if v = (-2) then (x_thr IOB w9) else (if v = (-5) then (x_thr NSE w9) else (if v = (-6) then (x_thr UOE w9) else (CmE z v w9)))) C R (fun w1 F1 ar1 M1 r1 => X7_merges M1 r1 C.i p) (mergeG_v γ.g p) (by decide) (by decide) (fun _ hk => cdM_nI hk) (fun w1 γ1 C1 hg => ?_) (fun v w9 hv => ?_) (fun v w9 hv => ?_)
    · obtain ⟨w2, e, C2, f2⟩ := C_run C1 (X4_merge C1.L p)
      rw [hg] at e C2
      refine ⟨w2, ?_, C2, f2⟩
      show (x_getr w1 z 6 0).bind _ = _
      rw [C1.r0, ob, oe, if_pos C1.L.o, e, x_br]
    · have hv' : v = (-2) ∨ v = (-5) ∨ v = (-6) := by simpa using hv
      rcases hv' with rfl | rfl | rfl
      · refine ⟨?_, by decide⟩
        show (if (-2 : Int32) = (-2) then (x_thr IOB w9) else (if (-2 : Int32) = (-5) then (x_thr NSE w9) else (if (-2 : Int32) = (-6) then (x_thr UOE w9) else (CmE z (-2) w9)))) = x_thr (if (-2 : Int32) = (-2) then IOB else if (-2 : Int32) = (-5) then NSE else UOE) w9
        rw [if_pos rfl, if_pos rfl]
      · refine ⟨?_, by decide⟩
        show (if (-5 : Int32) = (-2) then (x_thr IOB w9) else (if (-5 : Int32) = (-5) then (x_thr NSE w9) else (if (-5 : Int32) = (-6) then (x_thr UOE w9) else (CmE z (-5) w9)))) = x_thr (if (-5 : Int32) = (-2) then IOB else if (-5 : Int32) = (-5) then NSE else UOE) w9
        rw [if_neg (by decide), if_pos rfl, if_neg (by decide), if_pos rfl]
      · refine ⟨?_, by decide⟩
        show (if (-6 : Int32) = (-2) then (x_thr IOB w9) else (if (-6 : Int32) = (-5) then (x_thr NSE w9) else (if (-6 : Int32) = (-6) then (x_thr UOE w9) else (CmE z (-6) w9)))) = x_thr (if (-6 : Int32) = (-2) then IOB else if (-6 : Int32) = (-5) then NSE else UOE) w9
        rw [if_neg (by decide), if_neg (by decide), if_pos rfl, if_neg (by decide), if_neg (by decide)]
    · show (if v = (-2) then (x_thr IOB w9) else (if v = (-5) then (x_thr NSE w9) else (if v = (-6) then (x_thr UOE w9) else (CmE z v w9)))) = _
      rw [if_neg (fun hc => hv (by rw [hc]; simp)), if_neg (fun hc => hv (by rw [hc]; simp)), if_neg (fun hc => hv (by rw [hc]; simp))]
  exact h
theorem S_castShadow (C : Cls w z γ) (R : Rel γ F ar) (p hr : Int32) : Sbs z w (f_X6_castShadow z p hr w) (f_X7_castShadow (z + 168) p hr) hI1A2S3 F ar := by
  have h : Sbs z w (CopE z (fun w4 => (x_getr w4 z 6 0).bind fun v7 => (v7).elim none fun a8 => if x_isO w4 a8 4 = true then (x_bind (f_X4_addShadow a8 p hr w4) (fun v w9 => if v = (-2) then (x_thr IOB w9) else (if v = (-3) then (x_thr IAE w9) else (if v = (-4) then (x_thr ISE w9) else (CmE z v w9))))) else none) w) (MopE (z + 168) (f_X7_casts (z + 168) p hr)) hI1A2S3 F ar := by
    refine S_chg (cd := cdC) (l := [-2, -3, -4]) (r := castG γ.g p hr) (E := fun v => if v = (-2) then IOB else if v = (-3) then IAE else ISE) (TL := fun v w9 => if v = (-2) then (x_thr IOB w9) else (if v = (-3) then (x_thr IAE w9) else (if v = (-4) then (x_thr ISE w9) else (CmE z v w9)))) C R (fun w1 F1 ar1 M1 r1 => X7_casts M1 r1 C.i p hr) (castG_v γ.g p hr) (by decide) (by decide) (fun _ hk => cdC_nI hk) (fun w1 γ1 C1 hg => ?_) (fun v w9 hv => ?_) (fun v w9 hv => ?_)
    · obtain ⟨w2, e, C2, f2⟩ := C_run C1 (X4_addShadow C1.L p hr)
      rw [hg] at e C2
      refine ⟨w2, ?_, C2, f2⟩
      show (x_getr w1 z 6 0).bind _ = _
      rw [C1.r0, ob, oe, if_pos C1.L.o, e, x_br]
    · have hv' : v = (-2) ∨ v = (-3) ∨ v = (-4) := by simpa using hv
      rcases hv' with rfl | rfl | rfl
      · refine ⟨?_, by decide⟩
        show (if (-2 : Int32) = (-2) then (x_thr IOB w9) else (if (-2 : Int32) = (-3) then (x_thr IAE w9) else (if (-2 : Int32) = (-4) then (x_thr ISE w9) else (CmE z (-2) w9)))) = x_thr (if (-2 : Int32) = (-2) then IOB else if (-2 : Int32) = (-3) then IAE else ISE) w9
        rw [if_pos rfl, if_pos rfl]
      · refine ⟨?_, by decide⟩
        show (if (-3 : Int32) = (-2) then (x_thr IOB w9) else (if (-3 : Int32) = (-3) then (x_thr IAE w9) else (if (-3 : Int32) = (-4) then (x_thr ISE w9) else (CmE z (-3) w9)))) = x_thr (if (-3 : Int32) = (-2) then IOB else if (-3 : Int32) = (-3) then IAE else ISE) w9
        rw [if_neg (by decide), if_pos rfl, if_neg (by decide), if_pos rfl]
      · refine ⟨?_, by decide⟩
        show (if (-4 : Int32) = (-2) then (x_thr IOB w9) else (if (-4 : Int32) = (-3) then (x_thr IAE w9) else (if (-4 : Int32) = (-4) then (x_thr ISE w9) else (CmE z (-4) w9)))) = x_thr (if (-4 : Int32) = (-2) then IOB else if (-4 : Int32) = (-3) then IAE else ISE) w9
        rw [if_neg (by decide), if_neg (by decide), if_pos rfl, if_neg (by decide), if_neg (by decide)]
    · show (if v = (-2) then (x_thr IOB w9) else (if v = (-3) then (x_thr IAE w9) else (if v = (-4) then (x_thr ISE w9) else (CmE z v w9)))) = _
      rw [if_neg (fun hc => hv (by rw [hc]; simp)), if_neg (fun hc => hv (by rw [hc]; simp)), if_neg (fun hc => hv (by rw [hc]; simp))]
  exact h
end CI
