/-! ===== going back, saving, feeding ===== -/
def hS1 : String → Int32 := fun E => if E = ISE then 1 else 0
theorem fo_al (v t : Nat → Int32) (n : Nat) : fo n (fun u i => upd u i (v i)) t = fun c => if c < n then v c else t c := by
  have h := fo_upd (fun _ => true) v t n
  have e : (fun (u : Nat → Int32) (c : Nat) => if (fun _ => true) c = true then upd u c (v c) else u) = fun u c => upd u c (v c) := rfl
  rw [e] at h
  rw [h]
  funext c
  simp
section CB
variable {w w' : xW} {z c : Nat} {γ : CG} {F : Nat → Int32} {ar : Nat → Nat → Int32}
theorem Cls.onGH (h : Cls w z γ) {g' : WL} {nx sz : Nat} {G : Nat → WL} (h' : LsAt w' (z + 1) g') (h'' : HiAt w' (z + 15) nx sz G) (hf : Fr (fun q => blk (z + 1) q ∨ q = z + 15) w w') : Cls w' z ((γ.wh nx sz G).wg g') := by
  obtain ⟨h1, h2, h3, h4, ⟨f, h5, h5'⟩, ⟨p, kd, u, k, h6⟩, h7⟩ := h
  exact ⟨(hf.2 _ (fun hq => by unfold blk at hq; omega)).trans h1, h', h'', h4.fr hf (fun q hq ha => by unfold blk at hq ha; omega),
    ⟨f, h5.fr hf (fun q hq ha => by unfold fwc at hq; unfold blk at ha; omega), h5'⟩, ⟨p, kd, u, k, h6.fr hf (fun q hq ha => by unfold ctc at hq; unfold blk at ha; omega)⟩, h7.fr hf (fun ha => by unfold blk at ha; omega) (fun ha => by unfold blk at ha; omega)⟩
/-! the model's copies -/
theorem X7_und_L (h : MoAt w c F ar) {kp : Nat} (hF : F 5 = nI kp) (hp : kp < 8) : ∀ (d k n : Nat) (u : Nat → Int32), k + d = 303 → d < n →
    f_X7_undo_L30 n c (nI k) (wA w c 1 u) = x_ret (nI kp) (wA w c 1 ((List.range' k d).foldl (fun u i => upd u i (ar 4 (303 * kp + i))) u)) := by
  intro d
  induction d with
  | zero =>
    intro k n u hk hn
    obtain ⟨n, rfl⟩ : ∃ m, n = m + 1 := ⟨n - 1, by omega⟩
    have h1 := h.sA 1 (by omega) (by omega) u
    simp only [f_X7_undo_L30, h1.g5, ob, hF]
    rw [if_pos (show (303 : Int32) ≤ nI k from nI_le (a := 303) (by omega) (by omega))]
    rfl
  | succ d ih =>
    intro k n u hk hn
    obtain ⟨n, rfl⟩ : ∃ m, n = m + 1 := ⟨n - 1, by omega⟩
    have h1 := h.sA 1 (by omega) (by omega) u
    have e0 : (303 : Int32) * nI kp + nI k = nI (303 * kp + k) := by rw [show (303 : Int32) = nI 303 from rfl, nI_mul, nI_add]
    have e1 : x_ild (wA w c 1 u) (c + 4) 0 (nI (303 * kp + k)) = some (ar 4 (303 * kp + k)) := h1.ld 4 (by omega) (by omega) (i := 303 * kp + k) (by show _ < 2424; omega)
    have e2 : x_ist (wA w c 1 u) (c + 1) 0 (nI k) (ar 4 (303 * kp + k)) = some (wA w c 1 (upd u k (ar 4 (303 * kp + k)))) := by
      refine (h1.st 1 (by omega) (by omega) (i := k) (by show k < 303; omega) (ar 4 (303 * kp + k))).trans ?_
      show some (wA (wA w c 1 u) c 1 (upd u k (ar 4 (303 * kp + k)))) = _
      rw [wA_wA]
    simp only [f_X7_undo_L30, h1.r1, h1.r4, h1.g5, ob, oe, hF, e0, e1, e2]
    rw [if_neg (show ¬ (303 : Int32) ≤ nI k from nI_ge (b := 303) (by omega) (by omega)), ← nI_succ k]
    exact ih (k + 1) n (upd u k (ar 4 (303 * kp + k))) (by omega) (by omega)
theorem X7_res_L (h : MoAt w c F ar) : ∀ (d k n : Nat) (u : Nat → Int32), k + d = 303 → d < n →
    f_X7_restore_L20 n c (nI k) (wA w c 1 u) = (fun w0 => (x_put w0 c 7 5 (.int 0)).bind fun w5 => (x_getr w5 c 7 1).bind fun v6 => (v6).elim none fun a7 => (x_ild w5 a7 0 0).bind fun v8 => (x_ret v8 w5 : xO Int32)) (wA w c 1 ((List.range' k d).foldl (fun u i => upd u i (ar 3 i)) u)) := by
  intro d
  induction d with
  | zero =>
    intro k n u hk hn
    obtain ⟨n, rfl⟩ : ∃ m, n = m + 1 := ⟨n - 1, by omega⟩
    simp only [f_X7_restore_L20]
    rw [if_pos (show (303 : Int32) ≤ nI k from nI_le (a := 303) (by omega) (by omega))]
    rfl
  | succ d ih =>
    intro k n u hk hn
    obtain ⟨n, rfl⟩ : ∃ m, n = m + 1 := ⟨n - 1, by omega⟩
    have h1 := h.sA 1 (by omega) (by omega) u
    have e1 : x_ild (wA w c 1 u) (c + 3) 0 (nI k) = some (ar 3 k) := h1.ld 3 (by omega) (by omega) (i := k) (by show k < 303; omega)
    have e2 : x_ist (wA w c 1 u) (c + 1) 0 (nI k) (ar 3 k) = some (wA w c 1 (upd u k (ar 3 k))) := by
      refine (h1.st 1 (by omega) (by omega) (i := k) (by show k < 303; omega) (ar 3 k)).trans ?_
      show some (wA (wA w c 1 u) c 1 (upd u k (ar 3 k))) = _
      rw [wA_wA]
    simp only [f_X7_restore_L20, h1.r1, h1.r3, ob, oe, e1, e2]
    rw [if_neg (show ¬ (303 : Int32) ≤ nI k from nI_ge (b := 303) (by omega) (by omega)), ← nI_succ k]
    exact ih (k + 1) n (upd u k (ar 3 k)) (by omega) (by omega)
theorem X7_sav_L (h : MoAt w c F ar) : ∀ (d k n : Nat) (u : Nat → Int32), k + d = 303 → d < n →
    f_X7_save_L7 n c (nI k) (wA w c 3 u) = (fun w0 => (x_put w0 c 7 6 (.int 1)).bind fun w3 => (x_getr w3 c 7 1).bind fun v4 => (v4).elim none fun a5 => (x_ild w3 a5 0 0).bind fun v6 => (x_ret v6 w3 : xO Int32)) (wA w c 3 ((List.range' k d).foldl (fun u i => upd u i (ar 1 i)) u)) := by
  intro d
  induction d with
  | zero =>
    intro k n u hk hn
    obtain ⟨n, rfl⟩ : ∃ m, n = m + 1 := ⟨n - 1, by omega⟩
    simp only [f_X7_save_L7]
    rw [if_pos (show (303 : Int32) ≤ nI k from nI_le (a := 303) (by omega) (by omega))]
    rfl
  | succ d ih =>
    intro k n u hk hn
    obtain ⟨n, rfl⟩ : ∃ m, n = m + 1 := ⟨n - 1, by omega⟩
    have h1 := h.sA 3 (by omega) (by omega) u
    have e1 : x_ild (wA w c 3 u) (c + 1) 0 (nI k) = some (ar 1 k) := h1.ld 1 (by omega) (by omega) (i := k) (by show k < 303; omega)
    have e2 : x_ist (wA w c 3 u) (c + 3) 0 (nI k) (ar 1 k) = some (wA w c 3 (upd u k (ar 1 k))) := by
      refine (h1.st 3 (by omega) (by omega) (i := k) (by show k < 303; omega) (ar 1 k)).trans ?_
      show some (wA (wA w c 3 u) c 3 (upd u k (ar 1 k))) = _
      rw [wA_wA]
    simp only [f_X7_save_L7, h1.r1, h1.r3, ob, oe, e1, e2]
    rw [if_neg (show ¬ (303 : Int32) ≤ nI k from nI_ge (b := 303) (by omega) (by omega)), ← nI_succ k]
    exact ih (k + 1) n (upd u k (ar 1 k)) (by omega) (by omega)
theorem X7_bak_L (h : MoAt w c F ar) (x : Int32) : ∀ (d k n : Nat) (u : Nat → Int32), k + d = 303 → d < n →
    f_X7_runCommands_L125 n c x (nI k) (wA w c 1 u) = (fun w0 => (x_put w0 c 7 16 (.int x)).bind fun w36 => if x_isO w36 c 7 = true then (x_bind (f_X7_fails c 2 w36) fun r38 w37 => (x_ret r38 w37 : xO Int32)) else none) (wA w c 1 ((List.range' k d).foldl (fun u i => upd u i (ar 2 i)) u)) := by
  intro d
  induction d with
  | zero =>
    intro k n u hk hn
    obtain ⟨n, rfl⟩ : ∃ m, n = m + 1 := ⟨n - 1, by omega⟩
    simp only [f_X7_runCommands_L125]
    rw [if_pos (show (303 : Int32) ≤ nI k from nI_le (a := 303) (by omega) (by omega))]
    rfl
  | succ d ih =>
    intro k n u hk hn
    obtain ⟨n, rfl⟩ : ∃ m, n = m + 1 := ⟨n - 1, by omega⟩
    have h1 := h.sA 1 (by omega) (by omega) u
    have e1 : x_ild (wA w c 1 u) (c + 2) 0 (nI k) = some (ar 2 k) := h1.ld 2 (by omega) (by omega) (i := k) (by show k < 303; omega)
    have e2 : x_ist (wA w c 1 u) (c + 1) 0 (nI k) (ar 2 k) = some (wA w c 1 (upd u k (ar 2 k))) := by
      refine (h1.st 1 (by omega) (by omega) (i := k) (by show k < 303; omega) (ar 2 k)).trans ?_
      show some (wA (wA w c 1 u) c 1 (upd u k (ar 2 k))) = _
      rw [wA_wA]
    simp only [f_X7_runCommands_L125, h1.r1, h1.r2, ob, oe, e1, e2]
    rw [if_neg (show ¬ (303 : Int32) ≤ nI k from nI_ge (b := 303) (by omega) (by omega)), ← nI_succ k]
    exact ih (k + 1) n (upd u k (ar 2 k)) (by omega) (by omega)
theorem S_undo (C : Cls w z γ) (R : Rel γ F ar) : Sbs z w (f_X6_undo z w) (f_X7_undo (z + 168)) hS1 F ar := by
  have hz := C.H.2.2.2
  have hn := C.H.2.2.1
  have r5 : F 5 = nI γ.sz := R.2.1.1
  by_cases h0 : γ.sz = 0
  · refine Rd_thr (E := ISE) (cd := 1) (b := 0) (C.rd ?_) (fun w' M => ⟨wz w' (z + 168) F 1, ar, ?_, M.sF _, wF_fr _, fun _ _ => rfl⟩) R (by decide) (by decide)
    · simp only [f_X6_undo, C.r1, ob, oe, C.H.g2]
      rw [h0, if_pos nI_0]
      rfl
    · have h1 := M.sF (upd F 0 0)
      have e : x_geti (wz w' (z + 168) F 0) (z + 168) 7 5 = some (F 5) := h1.g5
      simp only [f_X7_undo, M.p0, ob, e]
      rw [r5, h0, if_pos nI_0, if_pos h1.o, fails_z M, x_br]
  · obtain ⟨s, hs⟩ : ∃ s, γ.sz = s + 1 := ⟨γ.sz - 1, by omega⟩
    have hH := C.H
    rw [hs] at hH hz r5
    have RH := R.2.1
    rw [hs] at RH
    obtain ⟨w1, g', e1, q1, q2, q3, q4⟩ := X2_stepBack hH C.L (Or.inl (by omega))
    have C1 := C.onGH q1 q2 q4
    refine ⟨.inl (nI s), w1, _, 0, ?_, q4.mono (fun q hq => by unfold blk at hq; exact ⟨by omega, by omega⟩), C1, fun E hE => (by cases hE), fun _ _ => rfl, fun w' M => ?_⟩
    · simp only [f_X6_undo, C.r1, C.r0, ob, oe, hH.g2]
      rw [if_neg (nI_ne0 (by omega) (by omega)), if_pos hH.o, e1, x_br, C1.r1, ob, oe, q2.g2, ob]
      rfl
    · have h1 := M.sF (upd F 0 0)
      have e2 : x_geti (wz w' (z + 168) F 0) (z + 168) 7 5 = some (nI (s + 1)) := by
        rw [← r5]
        exact h1.g5
      have h2 := h1.sF (upd (upd F 0 0) 5 (nI s))
      have e3 := X7_und_L h2 (kp := s) (by unfold upd; rw [if_pos rfl]) (by omega) 303 0 xfuel (ar 1) (by omega) (by unfold xfuel; omega)
      rw [wA_self h2 (by omega) (by omega), fo_R, fo_al (fun i => ar 4 (303 * s + i)) (ar 1) 303, nI_0] at e3
      have h3 := h2.sA 1 (by omega) (by omega) (fun q => if q < 303 then ar 4 (303 * s + q) else ar 1 q)
      obtain ⟨b1, b2⟩ := RH.back (F' := upd (upd F 0 0) 5 (nI s)) (ar' := fun j => if j = 1 then (fun q => if q < 303 then ar 4 (303 * s + q) else ar 1 q) else ar j) hn hz (by unfold upd; rw [if_pos rfl]) rfl
      refine ⟨_, _, _, nI s, ?_, h3, ((wF_fr _).tr (wF_fr _)).tr (wA_fr (by omega) _), R.g' ?_ b1 (fun k hk => ?_) (fun k hk => if_neg (by omega)), ?_, fun v hv => (by cases hv; rfl)⟩
      · simp only [f_X7_undo, M.p0, ob, e2]
        rw [if_neg (nI_ne0 (by omega) (by omega)), nI_pred, h1.p5, ob]
        exact e3
      · refine (b2.eqw q3.sy).cg (fun i hi => ?_)
        show (if i < 303 then ar 4 (303 * s + i) else ar 1 i) = _
        rw [if_pos hi]
      · unfold upd
        rw [if_neg (by omega), if_neg (by omega)]
      · unfold upd
        rw [if_neg (by omega), if_pos rfl]
theorem S_save (C : Cls w z γ) (R : Rel γ F ar) (H : String → Int32) : Sbs z w (f_X6_save z w) (f_X7_save (z + 168)) H F ar := by
  obtain ⟨w1, g', e1, q1, q2, q3⟩ := X4_copyFrom (b := z + 143) (b' := z + 1) (by unfold apart; omega) C.S C.L
  have C1 := C.onS q1 q2
  have C2 := C1.onX 1 γ.ep γ.fc
  refine ⟨.inl (nI γ.g.n), _, _, 0, ?_, (q2.mono (fun q hq => by unfold blk at hq; exact ⟨by omega, by omega⟩)).tr (Fr.set ⟨by omega, by omega⟩), C2, fun E hE => (by cases hE), fun _ _ => rfl, fun w' M => ?_⟩
  · simp only [f_X6_save, C.r2, C.r0, ob, oe]
    rw [if_pos C.S.o, e1, x_br]
    have e2 : x_put w1 z 6 3 (.int 1) = some (xset w1 z (X6o z 1 γ.ep γ.fc)) := C1.p3 1
    have e3 : x_getr (xset w1 z (X6o z 1 γ.ep γ.fc)) z 6 0 = some (some (z + 1)) := C2.r0
    have e4 : x_geti (xset w1 z (X6o z 1 γ.ep γ.fc)) (z + 1) 4 1 = some (nI γ.g.n) := C2.L.g1
    rw [e2, ob]
    show (x_getr (xset w1 z (X6o z 1 γ.ep γ.fc)) z 6 0).bind _ = _
    rw [e3, ob, oe, e4, ob]
    rfl
  · have h1 := M.sF (upd F 0 0)
    have e3 := X7_sav_L h1 303 0 xfuel (ar 3) (by omega) (by unfold xfuel; omega)
    rw [wA_self h1 (by omega) (by omega), fo_R, fo_al (ar 1) (ar 3) 303, nI_0] at e3
    have h2 := h1.sA 3 (by omega) (by omega) (fun q => if q < 303 then ar 1 q else ar 3 q)
    have h3 := h2.sF (upd (upd F 0 0) 6 1)
    have e4 := X7_n h3
    obtain ⟨r1, r2, r3, r4, r5, r6, r7, r8, r9, r10⟩ := R
    refine ⟨_, _, _, nI γ.g.n, ?_, h3, ((wF_fr _).tr (wA_fr (by omega) _)).tr (wF_fr _), ⟨r1, r2.keep (by unfold upd; rw [if_neg (by omega), if_neg (by omega)]) rfl, by unfold upd; rw [if_pos rfl]; rfl, Or.inr ⟨rfl, ?_⟩, ?_, r6, ?_, r8, ?_, ?_⟩, ?_, fun v hv => (by cases hv; rfl)⟩
    · simp only [f_X7_save, M.p0, ob]
      refine e3.trans ?_
      show (x_put _ (z + 168) 7 6 (.int 1)).bind _ = _
      rw [h2.p6, ob, h3.r1, ob, oe, e4, ob]
      show x_ret (ar 1 0) _ = _
      rw [r1.1]
    · refine (r1.eqw q3.sy).cg (fun i hi => ?_)
      show (if i < 303 then ar 1 i else ar 3 i) = _
      rw [if_pos hi]
    · unfold upd; rw [if_neg (by omega), if_neg (by omega)]; exact r5
    · unfold upd; rw [if_neg (by omega), if_neg (by omega)]; exact r7
    · unfold upd; rw [if_neg (by omega), if_neg (by omega)]; exact r9
    · unfold upd; rw [if_neg (by omega), if_neg (by omega)]; exact r10
    · unfold upd; rw [if_neg (by omega), if_pos rfl]
theorem S_restore (C : Cls w z γ) (R : Rel γ F ar) : Sbs z w (f_X6_restore z w) (f_X7_restore (z + 168)) hS1 F ar := by
  obtain ⟨r1, r2, r3, r4, r5, r6, r7, r8, r9, r10⟩ := id R
  by_cases h0 : γ.sv = 0
  · refine Rd_thr (E := ISE) (cd := 1) (b := 0) (C.rd ?_) (fun w' M => ⟨wz w' (z + 168) F 1, ar, ?_, M.sF _, wF_fr _, fun _ _ => rfl⟩) R (by decide) (by decide)
    · simp only [f_X6_restore, C.g3, ob]
      rw [if_pos h0]
      rfl
    · have h1 := M.sF (upd F 0 0)
      have e : x_geti (wz w' (z + 168) F 0) (z + 168) 7 6 = some (F 6) := h1.g6
      simp only [f_X7_restore, M.p0, ob, e]
      rw [r3, if_pos h0, if_pos h1.o, fails_z M, x_br]
  · obtain ⟨s1, s2⟩ := r4.resolve_left h0
    obtain ⟨w1, g', e1, q1, q2, q3⟩ := X4_copyFrom (b := z + 1) (b' := z + 143) (by unfold apart; omega) C.L C.S
    have C1 := C.onG q1 q2
    obtain ⟨w2, e2, q4, q5⟩ := X2_forgetAll C1.H
    have C2 := C1.onH q4 (q5.mono (fun q hq => by rw [hq]; exact ⟨by omega, by omega⟩))
    have hr : RelS g' (ar 3) := s2.eqw q3.sy
    refine ⟨.inl (nI g'.n), w2, _, 0, ?_, (blk_clc q2).tr (q5.mono (fun q hq => by rw [hq]; exact ⟨by omega, by omega⟩)), C2, fun E hE => (by cases hE), fun _ _ => rfl, fun w' M => ?_⟩
    · simp only [f_X6_restore, C.g3, C.r2, C.r0, ob, oe]
      have e3 : x_geti w2 (z + 1) 4 1 = some (nI g'.n) := C2.L.g1
      rw [if_neg h0, if_pos C.L.o, e1, x_br, C1.r1, ob, oe, if_pos C1.H.o, e2, x_br, C2.r0, ob, oe, e3, ob]
      rfl
    · have h1 := M.sF (upd F 0 0)
      have e : x_geti (wz w' (z + 168) F 0) (z + 168) 7 6 = some (F 6) := h1.g6
      have e3 := X7_res_L h1 303 0 xfuel (ar 1) (by omega) (by unfold xfuel; omega)
      rw [wA_self h1 (by omega) (by omega), fo_R, fo_al (ar 3) (ar 1) 303, nI_0] at e3
      have h2 := h1.sA 1 (by omega) (by omega) (fun q => if q < 303 then ar 3 q else ar 1 q)
      have h3 := h2.sF (upd (upd F 0 0) 5 0)
      have e4 := X7_n h3
      have hu : ∀ i, i < 303 → (fun q => if q < 303 then ar 3 q else ar 1 q) i = ar 3 i := fun i hi => if_pos hi
      refine ⟨_, _, _, nI g'.n, ?_, h3, ((wF_fr _).tr (wA_fr (by omega) _)).tr (wF_fr _), ⟨hr.cg hu, ⟨by unfold upd; rw [if_pos rfl]; exact nI_0.symm, fun j hj => absurd hj (Nat.not_lt_zero j)⟩, ?_, Or.inr ⟨s1, s2⟩, ?_, r6, ?_, r8, ?_, ?_⟩, ?_, fun v hv => (by cases hv; rfl)⟩
      · simp only [f_X7_restore, M.p0, ob, e]
        rw [r3, if_neg h0]
        refine e3.trans ?_
        show (x_put _ (z + 168) 7 5 (.int 0)).bind _ = _
        rw [h2.p5, ob, h3.r1, ob, oe, e4, ob]
        show x_ret (if 0 < 303 then ar 3 0 else ar 1 0) _ = _
        rw [if_pos (by omega), hr.1]
      · unfold upd; rw [if_neg (by omega), if_neg (by omega)]; exact r3
      · unfold upd; rw [if_neg (by omega), if_neg (by omega)]; exact r5
      · unfold upd; rw [if_neg (by omega), if_neg (by omega)]; exact r7
      · unfold upd; rw [if_neg (by omega), if_neg (by omega)]; exact r9
      · unfold upd; rw [if_neg (by omega), if_neg (by omega)]; exact r10
      · unfold upd; rw [if_neg (by omega), if_pos rfl]
theorem S_feed (C : Cls w z γ) (R : Rel γ F ar) {x : Int32} (hx : x_nar 1 x = x) : Sbs z w (f_X6_feed z x w) (f_X7_feed (z + 168) x) hS1 F ar := by
  obtain ⟨r1, r2, r3, r4, r5, r6, r7, r8, r9, r10⟩ := id R
  obtain ⟨p, kd, u, k, hT⟩ := C.2.2.2.2.2.1
  have hn := hT.2.2.2.1
  by_cases h0 : γ.n = 60
  · refine Rd_thr (E := ISE) (cd := 1) (b := 0) (C.rd ?_) (fun w' M => ⟨wz w' (z + 168) F 1, ar, ?_, M.sF _, wF_fr _, fun _ _ => rfl⟩) R (by decide) (by decide)
    · simp only [f_X6_feed, C.r5, ob, oe, hT.o, if_true, f_X0_isFull, hT.g1]
      rw [h0, if_neg (show ¬ nI 60 < 60 by decide), x_br, if_neg (by decide)]
      rfl
    · simp only [f_X7_feed, M.g13, ob, r5]
      rw [h0, if_pos (show nI 60 = (60 : Int32) from rfl)]
      unfold f_X7_feed_J15
      rw [oe, M.p0, ob, M.gz, ob, if_neg (by decide)]
  · have hlt : γ.n < 60 := by omega
    have e1 := ist_of hT.2.1 hlt (by omega) x
    rw [hx] at e1
    have hT1 : CtAt (xset w (z + 163 + 1) (.inl (1, 60, .inl (upd γ.tx γ.n x)))) (z + 163) (upd γ.tx γ.n x) γ.n p kd u k := ⟨(xset_ne (by omega)).trans hT.1, xset_at _ _ _, (xset_ne (by omega)).trans hT.2.2.1, hT.2.2.2.1, hT.2.2.2.2⟩
    have hT2 := hT1.sO (n' := γ.n + 1) (p' := p) (by omega) hT.2.2.2.2 kd k
    have f1 : Fr (ctc (z + 163)) w (xset (xset w (z + 163 + 1) (.inl (1, 60, .inl (upd γ.tx γ.n x)))) (z + 163) (ctV (z + 163) (γ.n + 1) p kd (nI k))) := (Fr.set ⟨by omega, by omega⟩).tr ct_fr0
    have C1 := C.onT hT2 f1
    refine ⟨.inl (nI (γ.n + 1)), _, _, 0, ?_, f1.mono (fun q hq => by unfold ctc at hq; exact ⟨by omega, by omega⟩), C1, fun E hE => (by cases hE), fun _ _ => rfl, fun w' M => ?_⟩
    · simp only [f_X6_feed, C.r5, ob, oe, hT.o, if_true, f_X0_isFull, hT.g1]
      rw [if_pos (show nI γ.n < 60 from nI_lt (b := 60) hlt (by omega)), x_br, if_pos rfl, C.r5, ob, oe, if_pos hT.o]
      simp only [f_X0_append, hT.g1, hT.g0, hT.lt, ob, oe, e1]
      rw [if_neg (nI_pos (by omega)), if_neg (nI_ge hlt (by omega)), hT1.g1, ob, ← nI_succ, hT1.p1, ob, hT2.g1, ob, x_br]
      rfl
    · have h1 := M.sF (upd F 0 0)
      have h2 := h1.sA 5 (by omega) (by omega) (upd (ar 5) γ.n x)
      have h3 := h2.sF (upd (upd F 0 0) 13 (nI (γ.n + 1)))
      have u13 : upd F 0 0 13 = nI γ.n := by unfold upd; rw [if_neg (by omega)]; exact r5
      have e2 : x_ist (wz w' (z + 168) F 0) (z + 168 + 5) 0 (nI γ.n) x = some (wA (wz w' (z + 168) F 0) (z + 168) 5 (upd (ar 5) γ.n x)) := h1.st 5 (by omega) (by omega) (i := γ.n) (by show _ < 60; omega) x
      refine ⟨_, _, _, nI (γ.n + 1), ?_, h3, ((wF_fr _).tr (wA_fr (by omega) _)).tr (wF_fr _), ⟨r1, r2.keep (by unfold upd; rw [if_neg (by omega), if_neg (by omega)]) rfl, ?_, r4, ?_, fun i hi => ?_, ?_, r8, ?_, ?_⟩, ?_, fun v hv => (by cases hv; rfl)⟩
      · simp only [f_X7_feed, M.g13, ob, r5]
        rw [if_neg (fun hc : nI γ.n = (60 : Int32) => h0 ((nI_eq (b := 60) (by omega) (by omega)).mp hc))]
        unfold f_X7_feed_J15
        rw [oe, M.p0, ob, M.gz, ob, if_pos (by decide), h1.r7, ob, h1.g13, ob, u13, oe, e2, ob, h2.g13, ob, u13, ← nI_succ, h2.p13, ob, h3.g13, ob]
        unfold upd
        rw [if_pos rfl]
      · unfold upd; rw [if_neg (by omega), if_neg (by omega)]; exact r3
      · unfold upd; rw [if_pos rfl]; rfl
      · show upd (ar 5) γ.n x i = upd γ.tx γ.n x i
        have hi' : i < γ.n + 1 := hi
        unfold upd
        by_cases hin : i = γ.n
        · rw [if_pos hin, if_pos hin]
        · rw [if_neg hin, if_neg hin]
          exact r6 i (by omega)
      · unfold upd; rw [if_neg (by omega), if_neg (by omega)]; exact r7
      · unfold upd; rw [if_neg (by omega), if_neg (by omega)]; exact r9
      · unfold upd; rw [if_neg (by omega), if_neg (by omega)]; exact r10
      · unfold upd; rw [if_neg (by omega), if_pos rfl]
end CB
