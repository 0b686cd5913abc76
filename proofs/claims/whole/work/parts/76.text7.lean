/-! ===== texts: the model reads one command ===== -/
section X7x
variable {w : xW} {c : Nat} {F : Nat → Int32} {ar : Nat → Nat → Int32} {e cm p : Nat} {so : Int32}
/-- behind a command read -/
def RdE (c : Nat) (F : Nat → Int32) (ar : Nat → Nat → Int32) (e cm p : Nat) (w w' : xW) : Prop :=
  ∃ F' ar', MoAt w' c F' ar' ∧ Fr (moc c) w w' ∧ F' 18 = nI (rdG (ar 5) e p).2.1 ∧ F' 20 = nI (cm + 1) ∧ F' 21 = (if (rdG (ar 5) e p).1 = true then 0 else 1) ∧ (∀ k, k ≠ 18 → k ≠ 20 → k ≠ 21 → F' k = F k) ∧ (∀ k, k ≠ 6 → ar' k = ar k) ∧ (∀ j, j < 7 * cm → ar' 6 j = ar 6 j) ∧
    ((rdG (ar 5) e p).1 = true → ar' 6 (7 * cm) = srt (rdG (ar 5) e p).2.2.1 ∧ ∀ i, i < nmb (fm (rdG (ar 5) e p).2.2.1) → ar' 6 (7 * cm + 1 + i) = (rdG (ar 5) e p).2.2.2 i)
theorem fin_MP (H : RdH F e cm p) {w1 : xW} {L : List Int32} {j : Nat} (M : MP w1 c F ar e cm so p L) (hf : Fr (moc c) w w1) (hs : sel (ar 5) e p = some j) (hL : fm j = L) (hso : so = srt j) :
    ∃ w', ((x_geti w1 c 7 20).bind fun v => (x_put w1 c 7 20 (.int (v + 1))).bind fun w2 => (x_ret () w2 : xO Unit)) = x_ret () w' ∧ RdE c F ar e cm p w w' := by
  obtain ⟨H1, H2, H3, H4, H5⟩ := H
  obtain ⟨F', ar', h, m1, m2, m3, m4, m5, m6, m7⟩ := M
  have h20 : F' 20 = nI cm := (m3 20 (by omega) (by omega)).trans H2
  subst hL
  have eg := rdG_some hs
  refine ⟨_, ?_, upd F' 20 (nI (cm + 1)), ar', h.sF _, hf.tr (wF_fr _), ?_, ?_, ?_, fun k k1 k2 k3 => ?_, m4, m5, fun h9 => ?_⟩
  · rw [h.g20, ob, h20, ← nI_succ, h.p20, ob]
  · rw [eg]; unfold upd; rw [if_neg (by omega)]; exact m1
  · unfold upd; rw [if_pos rfl]
  · rw [eg]; unfold upd; rw [if_neg (by omega)]; exact m2
  · unfold upd; rw [if_neg k2]; exact m3 k k1 k3
  · rw [eg] at h9 ⊢
    refine ⟨by rw [m6, hso], fun i hi => m7 h9 i ?_⟩
    rw [mtc_k h9]
    exact hi
theorem L111_go {fu k : Nat} (hk : k < 6) (ho : x_isO w c 7 = true) : f_X7_readsOne_L111 (fu + 1) c (nI k) w = x_bind (f_X7_number c (nI k) 1 w) fun _ w86 => f_X7_readsOne_L111 fu c (nI (k + 1)) w86 := by
  simp only [f_X7_readsOne_L111]
  rw [if_neg (show ¬ (6 : Int32) ≤ nI k from nI_ge (b := 6) (by omega) (by omega)), if_pos ho, nI_succ]
theorem L111_end {fu : Nat} (ho : x_isO w c 7 = true) : f_X7_readsOne_L111 (fu + 1) c (nI 6) w = x_bind (f_X7_says c 36 w) fun _ w78 => if x_isO w78 c 7 = true then (x_bind (f_X7_number c 6 2 w78) fun _ w81 => (x_geti w81 c 7 20).bind fun v84 => (x_put w81 c 7 20 (.int (v84 + 1))).bind fun w85 => x_ret () w85) else none := by
  simp only [f_X7_readsOne_L111]
  rw [if_pos (show (6 : Int32) ≤ nI 6 from nI_le (a := 6) (by omega) (by omega)), if_pos ho]
theorem hr_eq {t : Nat → Int32} {q : Nat} {s : Int32} (hs : s ≠ -1) : ((if q < e then t q else -1) = s) ↔ q < e ∧ t q = s := by
  by_cases hq : q < e
  · rw [if_pos hq]
    exact ⟨fun h => ⟨hq, h⟩, fun h => h.2⟩
  · rw [if_neg hq]
    exact ⟨fun h => absurd h.symm hs, fun h => absurd h.1 hq⟩
theorem n36 : nmb (xCh 36) = 0 := (wd_pl 36 (by omega) (by omega)).2
theorem p36 : plnB (xCh 36) = true := (wd_pl 36 (by omega) (by omega)).1
set_option maxHeartbeats 2000000 in
theorem X7_readsOne (H : RdH F e cm p) (h : MoAt w c F ar) (h8 : F 18 = nI p) (h21 : F 21 = 0) : ∃ w', f_X7_readsOne c w = x_ret () w' ∧ RdE c F ar e cm p w w' := by
  obtain ⟨H1, H2, H3, H4, H5⟩ := id H
  obtain ⟨s0, s1, s2, s3, s4, s5, s6, s7⟩ := fm_sp
  have e1 := X7_here h (m := 0) h8 H1 H3 (by omega) (by omega)
  rw [nI_0, Nat.add_zero] at e1
  have e2 := X7_here h (m := 1) h8 H1 H3 (by omega) (by omega)
  have bg := fun (so : Int32) (i : Nat) (h1 : 34 ≤ i) (h2 : i < 43) => begun_MP H h h8 h21 so h1 h2
  have nb := fun (i : Nat) (h1 : 34 ≤ i) (h2 : i < 43) => (wd_pl i h1 h2).2
  unfold f_X7_readsOne
  rw [if_pos h.o, e1, x_br]
  by_cases a1 : (if p < e then ar 5 p else -1) = (99 : Int32)
  · obtain ⟨hp, ht⟩ := (hr_eq (by decide)).mp a1
    have hs : sel (ar 5) e p = some 7 := sel_some (by omega) hp ht (by omega) (by omega)
    rw [if_pos a1, if_pos h.o]
    obtain ⟨w1, b1, M1, f1⟩ := bg 99 42 (by omega) (by omega)
    obtain ⟨w2, b2, M2, f2⟩ := says_MP H (i := 36) (by omega) p36 M1
    obtain ⟨w3, b3, M3, f3⟩ := num2_MP H M2 (kp := 2) (by omega) (by omega) (mtc_kp (m := 1) (by rw [nmb_app, nmb_app, nmb_app, nb 42 (by omega) (by omega), n36]; rfl) rfl)
    rw [b1, x_br, if_pos (MP_o M1), b2, x_br, if_pos (MP_o M2), show (2 : Int32) = nI 2 from rfl]
    rw [show (2 : Int32) = nI 2 from rfl] at b3
    rw [b3, x_br]
    exact fin_MP H M3 ((f1.tr f2).tr f3) hs s7 rfl
  · rw [if_neg a1]
    by_cases a2 : (if p < e then ar 5 p else -1) = (101 : Int32)
    · obtain ⟨hp, ht⟩ := (hr_eq (by decide)).mp a2
      have hs : sel (ar 5) e p = some 2 := sel_some (by omega) hp ht (by omega) (by omega)
      rw [if_pos a2, if_pos h.o]
      obtain ⟨w1, b1, M1, f1⟩ := bg 101 37 (by omega) (by omega)
      obtain ⟨w2, b2, M2, f2⟩ := says_MP H (i := 36) (by omega) p36 M1
      obtain ⟨w3, b3, M3, f3⟩ := num1_MP H M2 (kp := 2) (by omega) (by omega) (mtc_kp (m := 1) (by rw [nmb_app, nmb_app, nmb_app, nb 37 (by omega) (by omega), n36]; rfl) rfl)
      obtain ⟨w4, b4, M4, f4⟩ := num1_MP H M3 (kp := 3) (by omega) (by omega) (mtc_kp (m := 2) (by rw [nmb_app, nmb_app, nmb_app, nmb_app, nb 37 (by omega) (by omega), n36]; rfl) rfl)
      obtain ⟨w5, b5, M5, f5⟩ := says_MP H (i := 36) (by omega) p36 M4
      obtain ⟨w6, b6, M6, f6⟩ := num1_MP H M5 (kp := 4) (by omega) (by omega) (mtc_kp (m := 3) (by rw [nmb_app, nmb_app, nmb_app, nmb_app, nmb_app, nmb_app, nb 37 (by omega) (by omega), n36]; rfl) rfl)
      rw [b1, x_br, if_pos (MP_o M1), b2, x_br, if_pos (MP_o M2), show (2 : Int32) = nI 2 from rfl, show (3 : Int32) = nI 3 from rfl, show (4 : Int32) = nI 4 from rfl, b3, x_br, if_pos (MP_o M3), b4, x_br, if_pos (MP_o M4), b5, x_br, if_pos (MP_o M5), b6, x_br]
      exact fin_MP H M6 (((((f1.tr f2).tr f3).tr f4).tr f5).tr f6) hs s2 rfl
    · rw [if_neg a2]
      by_cases a3 : (if p < e then ar 5 p else -1) = (104 : Int32)
      · obtain ⟨hp, ht⟩ := (hr_eq (by decide)).mp a3
        have hs : sel (ar 5) e p = some 3 := sel_some (by omega) hp ht (by omega) (by omega)
        rw [if_pos a3, if_pos h.o]
        obtain ⟨w1, b1, M1, f1⟩ := bg 104 38 (by omega) (by omega)
        rw [b1, x_br]
        exact fin_MP H M1 f1 hs s3 rfl
      · rw [if_neg a3]
        by_cases a4 : (if p < e then ar 5 p else -1) = (108 : Int32)
        · obtain ⟨hp, ht⟩ := (hr_eq (by decide)).mp a4
          have hs : sel (ar 5) e p = some 0 := sel_some (by omega) hp ht (by omega) (by omega)
          rw [if_pos a4, if_pos h.o]
          obtain ⟨w1, b1, M1, f1⟩ := layer_MP H h h8 h21
          rw [b1, x_br]
          exact fin_MP H M1 f1 hs s0 rfl
        · rw [if_neg a4]
          by_cases a5 : (if p < e then ar 5 p else -1) = (109 : Int32)
          · obtain ⟨hp, ht⟩ := (hr_eq (by decide)).mp a5
            have hm := sel_m hp ht
            rw [if_pos a5, if_pos h.o, show (1 : Int32) = nI 1 from rfl, e2, x_br]
            by_cases a6 : (if p + 1 < e then ar 5 (p + 1) else -1) = (111 : Int32)
            · rw [if_pos ((hr_eq (by decide)).mp a6)] at hm
              rw [if_pos a6, if_pos h.o]
              obtain ⟨w1, b1, M1, f1⟩ := bg 111 40 (by omega) (by omega)
              obtain ⟨w2, b2, M2, f2⟩ := says_MP H (i := 36) (by omega) p36 M1
              obtain ⟨w3, b3, M3, f3⟩ := num1_MP H M2 (kp := 2) (by omega) (by omega) (mtc_kp (m := 1) (by rw [nmb_app, nmb_app, nmb_app, nb 40 (by omega) (by omega), n36]; rfl) rfl)
              rw [b1, x_br, if_pos (MP_o M1), b2, x_br, if_pos (MP_o M2), show (2 : Int32) = nI 2 from rfl, show nI 1 = (1 : Int32) from rfl, b3, x_br]
              exact fin_MP H M3 ((f1.tr f2).tr f3) hm s6 rfl
            · rw [if_neg (fun hc => a6 ((hr_eq (by decide)).mpr hc))] at hm
              rw [if_neg a6, if_pos h.o]
              obtain ⟨w1, b1, M1, f1⟩ := bg 109 41 (by omega) (by omega)
              rw [b1, x_br]
              exact fin_MP H M1 f1 hm s5 rfl
          · rw [if_neg a5]
            by_cases a7 : (if p < e then ar 5 p else -1) = (112 : Int32)
            · obtain ⟨hp, ht⟩ := (hr_eq (by decide)).mp a7
              have hs : sel (ar 5) e p = some 1 := sel_some (by omega) hp ht (by omega) (by omega)
              rw [if_pos a7, if_pos h.o]
              obtain ⟨w1, b1, M1, f1⟩ := bg 112 35 (by omega) (by omega)
              obtain ⟨w2, b2, M2, f2⟩ := says_MP H (i := 36) (by omega) p36 M1
              obtain ⟨w3, b3, M3, f3⟩ := num1_MP H M2 (kp := 2) (by omega) (by omega) (mtc_kp (m := 1) (by rw [nmb_app, nmb_app, nmb_app, nb 35 (by omega) (by omega), n36]; rfl) rfl)
              obtain ⟨w4, b4, M4, f4⟩ := num1_MP H M3 (kp := 3) (by omega) (by omega) (mtc_kp (m := 2) (by rw [nmb_app, nmb_app, nmb_app, nmb_app, nb 35 (by omega) (by omega), n36]; rfl) rfl)
              obtain ⟨w5, b5, M5, f5⟩ := num1_MP H M4 (kp := 4) (by omega) (by omega) (mtc_kp (m := 3) (by rw [nmb_app, nmb_app, nmb_app, nmb_app, nmb_app, nb 35 (by omega) (by omega), n36]; rfl) rfl)
              obtain ⟨w6, b6, M6, f6⟩ := num1_MP H M5 (kp := 5) (by omega) (by omega) (mtc_kp (m := 4) (by rw [nmb_app, nmb_app, nmb_app, nmb_app, nmb_app, nmb_app, nb 35 (by omega) (by omega), n36]; rfl) rfl)
              obtain ⟨w7, b7, M7, f7⟩ := says_MP H (i := 36) (by omega) p36 M6
              obtain ⟨w8, b8, M8, f8⟩ := num2_MP H M7 (kp := 6) (by omega) (by omega) (mtc_kp (m := 5) (by rw [nmb_app, nmb_app, nmb_app, nmb_app, nmb_app, nmb_app, nmb_app, nmb_app, nb 35 (by omega) (by omega), n36]; rfl) rfl)
              obtain ⟨N, hN⟩ : ∃ N, xfuel = N + 1 + 1 + 1 + 1 + 1 := ⟨4995, rfl⟩
              rw [b1, x_br, if_pos (MP_o M1), b2, x_br, hN]
              show ∃ w', f_X7_readsOne_L111 (N + 1 + 1 + 1 + 1 + 1) c (nI 2) w2 = x_ret () w' ∧ _
              rw [L111_go (by omega) (MP_o M2), b3, x_br, L111_go (by omega) (MP_o M3), b4, x_br, L111_go (by omega) (MP_o M4), b5, x_br, L111_go (by omega) (MP_o M5), b6, x_br, L111_end (MP_o M6), b7, x_br, if_pos (MP_o M7)]
              rw [show nI 6 = (6 : Int32) from rfl] at b8
              rw [b8, x_br]
              exact fin_MP H M8 (((((((f1.tr f2).tr f3).tr f4).tr f5).tr f6).tr f7).tr f8) hs s1 rfl
            · rw [if_neg a7]
              by_cases a8 : (if p < e then ar 5 p else -1) = (115 : Int32)
              · obtain ⟨hp, ht⟩ := (hr_eq (by decide)).mp a8
                have hs : sel (ar 5) e p = some 4 := sel_some (by omega) hp ht (by omega) (by omega)
                rw [if_pos a8, if_pos h.o]
                obtain ⟨w1, b1, M1, f1⟩ := bg 115 39 (by omega) (by omega)
                rw [b1, x_br]
                exact fin_MP H M1 f1 hs s4 rfl
              · rw [if_neg a8]
                have hs : sel (ar 5) e p = none := by
                  unfold sel
                  by_cases hp : p < e
                  · rw [if_pos hp] at a1 a2 a3 a4 a5 a7 a8 ⊢
                    rw [if_neg a1, if_neg a2, if_neg a3, if_neg a4, if_neg a5, if_neg a7, if_neg a8]
                  · rw [if_neg hp]
                have eg := rdG_none hs
                have h2 := h.sF (upd F 21 1)
                have u20 : upd F 21 1 20 = nI cm := by unfold upd; rw [if_neg (by omega)]; exact H2
                refine ⟨_, ?_, upd (upd F 21 1) 20 (nI (cm + 1)), ar, h2.sF _, (wF_fr _).tr (wF_fr _), ?_, ?_, ?_, fun k k1 k2 k3 => ?_, fun _ _ => rfl, fun _ _ => rfl, fun h9 => ?_⟩
                · rw [h.p21, ob, h2.g20, ob, u20, ← nI_succ, h2.p20, ob]
                · rw [eg]; unfold upd; rw [if_neg (by omega), if_neg (by omega)]; exact h8
                · unfold upd; rw [if_pos rfl]
                · rw [eg]; unfold upd; rw [if_neg (by omega), if_pos rfl]; rfl
                · unfold upd; rw [if_neg k2, if_neg k3]
                · rw [eg] at h9; cases h9
end X7x
