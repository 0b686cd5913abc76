/-! ===== texts: the model reads a command ===== -/
/-- the sign a form is told by -/
def srt : Nat → Int32 := fun j => match j with
  | 6 => 111
  | k => hd k
theorem ch36 : xCh 36 = [32] := by decide +kernel
theorem wd_pl : ∀ i, 34 ≤ i → i < 43 → plnB (xCh i) = true ∧ nmb (xCh i) = 0 := by
  intro i h1 h2
  have h : i = 34 ∨ i = 35 ∨ i = 36 ∨ i = 37 ∨ i = 38 ∨ i = 39 ∨ i = 40 ∨ i = 41 ∨ i = 42 := by omega
  rcases h with rfl | rfl | rfl | rfl | rfl | rfl | rfl | rfl | rfl <;> decide +kernel
theorem fm_sp : fm 0 = xCh 34 ++ [42] ∧ fm 1 = xCh 35 ++ xCh 36 ++ [35] ++ xCh 36 ++ [35] ++ [35] ++ [35] ++ [35] ++ xCh 36 ++ [35, 43] ∧ fm 2 = xCh 37 ++ xCh 36 ++ [35] ++ xCh 36 ++ [35] ++ [35] ++ xCh 36 ++ [35] ∧
    fm 3 = xCh 38 ++ xCh 36 ++ [35] ∧ fm 4 = xCh 39 ++ xCh 36 ++ [35] ∧ fm 5 = xCh 41 ++ xCh 36 ++ [35] ∧ fm 6 = xCh 40 ++ xCh 36 ++ [35] ++ xCh 36 ++ [35] ∧ fm 7 = xCh 42 ++ xCh 36 ++ [35] ++ xCh 36 ++ [35, 43] := by decide +kernel
theorem nmb_app : ∀ a b : List Int32, nmb (a ++ b) = nmb a + nmb b
  | [], b => (Nat.zero_add _).symm
  | s :: r, b => by
    show nmb (s :: (r ++ b)) = _
    rw [nmb_cons, nmb_cons, nmb_app r b, Nat.add_assoc]
theorem mtc_le {t : Nat → Int32} {n p : Nat} {l : List Int32} (h : p ≤ n) : (mtc t n l p).2.1 ≤ n := mt_le t n l p _ 0 h
theorem mtc_k {t : Nat → Int32} {n p : Nat} {l : List Int32} (h : (mtc t n l p).1 = true) : (mtc t n l p).2.2.2 = nmb l := by
  have h1 : (mtc t n l p).2.2.2 = 0 + nmb l := mt_k t n l p _ 0 h
  rw [h1, Nat.zero_add]
section X7w
variable {w : xW} {c : Nat} {F : Nat → Int32} {ar : Nat → Nat → Int32} {e cm p : Nat} {so : Int32}
theorem mtc_kp {t : Nat → Int32} {n p : Nat} {L : List Int32} {m kp : Nat} (hm : nmb L = m) (hk : m + 1 = kp) : (mtc t n L p).1 = true → (mtc t n L p).2.2.2 + 1 = kp := fun h => by
  have h1 : (mtc t n L p).2.2.2 = 0 + nmb L := mt_k t n L p _ 0 h
  omega
/-- a command's sort told -/
theorem sort_MP (H : RdH F e cm p) (h : MoAt w c F ar) (h8 : F 18 = nI p) (h21 : F 21 = 0) (so : Int32) : ∃ w', x_ist w (c + 6) 0 (7 * F 20) so = some w' ∧ MoAt w' c F (tdA ar (7 * cm) so) ∧ MP w' c F ar e cm so p [] ∧ Fr (moc c) w w' := by
  obtain ⟨H1, H2, H3, H4, H5⟩ := H
  have h1 := h.sA 6 (by omega) (by omega) (upd (ar 6) (7 * cm) so)
  refine ⟨_, ?_, h1, ⟨F, _, h1, h8, h21, fun _ _ _ => rfl, fun k hk => if_neg hk, fun j hj => ?_, ?_, fun _ i hi => absurd hi (Nat.not_lt_zero i)⟩, wA_fr (by omega) _⟩
  · rw [H2, show (7 : Int32) * nI cm = nI (7 * cm) by rw [show (7 : Int32) = nI 7 from rfl, nI_mul]]
    exact h.st 6 (by omega) (by omega) (i := 7 * cm) (by show _ < 420; omega) so
  · show upd (ar 6) (7 * cm) so j = ar 6 j
    unfold upd
    rw [if_neg (by omega)]
  · show upd (ar 6) (7 * cm) so (7 * cm) = so
    unfold upd
    rw [if_pos rfl]
theorem begun_MP (H : RdH F e cm p) (h : MoAt w c F ar) (h8 : F 18 = nI p) (h21 : F 21 = 0) (so : Int32) {i : Nat} (h1 : 34 ≤ i) (h2 : i < 43) : ∃ w', f_X7_begun c so i w = x_ret () w' ∧ MP w' c F ar e cm so p (xCh i ++ xCh 36 ++ [35]) ∧ Fr (moc c) w w' := by
  obtain ⟨w1, e1, q1, M1, f1⟩ := sort_MP H h h8 h21 so
  obtain ⟨w2, e2, M2, f2⟩ := says_MP H h2 (wd_pl i h1 h2).1 M1
  rw [List.nil_append] at M2
  obtain ⟨w3, e3, M3, f3⟩ := says_MP H (i := 36) (by omega) (wd_pl 36 (by omega) (by omega)).1 M2
  obtain ⟨w4, e4, M4, f4⟩ := num1_MP H M3 (kp := 1) (by omega) (by omega) (mtc_kp (m := 0) (by rw [nmb_app, (wd_pl i h1 h2).2, (wd_pl 36 (by omega) (by omega)).2]) rfl)
  have o2 : x_isO w2 c 7 = true := by
    obtain ⟨F', ar', h', -⟩ := M2
    exact h'.o
  have o3 : x_isO w3 c 7 = true := by
    obtain ⟨F', ar', h', -⟩ := M3
    exact h'.o
  refine ⟨w4, ?_, M4, ((f1.tr f2).tr f3).tr f4⟩
  simp only [f_X7_begun, h.r8, ob, oe, h.g20, e1, q1.o, if_true, e2, x_br, o2, e3, o3]
  rw [show (1 : Int32) = nI 1 from rfl] 
  rw [show nI 1 = (1 : Int32) from rfl] at e4 ⊢
  rw [e4, x_br]
theorem MP_o {L : List Int32} (M : MP w c F ar e cm so p L) : x_isO w c 7 = true := by
  obtain ⟨F', ar', h', -⟩ := M
  exact h'.o
/-- a mode's letter here? -/
theorem mode_here (t : Nat → Int32) (q : Nat) : isM (if q < e then t q else -1) = true ↔ nxtB t e 42 q = true := by
  have e0 : nxtB t e 42 q = (decide (q < e) && isM (t q)) := by unfold nxtB fitB; rw [if_pos rfl]
  rw [e0]
  by_cases hq : q < e
  · rw [if_pos hq]
    simp [hq]
  · rw [if_neg hq]
    simp [hq]
    decide
theorem layer_MP (H : RdH F e cm p) (h : MoAt w c F ar) (h8 : F 18 = nI p) (h21 : F 21 = 0) : ∃ w', f_X7_readsLayer c w = x_ret () w' ∧ MP w' c F ar e cm 108 p (xCh 34 ++ [42]) ∧ Fr (moc c) w w' := by
  obtain ⟨w1, e1, q1, M1, f1⟩ := sort_MP H h h8 h21 108
  obtain ⟨w2, e2, M2, f2⟩ := says_MP H (i := 34) (by omega) (wd_pl 34 (by omega) (by omega)).1 M1
  rw [List.nil_append] at M2
  obtain ⟨H1, H2, H3, H4, H5⟩ := H
  have ea := mtc_app (ar 5) e (xCh 34) [42] p
  have hle : (mtc (ar 5) e (xCh 34) p).2.1 ≤ e := mtc_le H5
  obtain ⟨F', ar', h', m1, m2, m3, m4, m5, m6, m7⟩ := M2
  have e5 : ar' 5 = ar 5 := m4 5 (by omega)
  have h20 : F' 20 = nI cm := (m3 20 (by omega) (by omega)).trans H2
  have h19 : F' 19 = nI e := (m3 19 (by omega) (by omega)).trans H1
  -- the wrong end
  have bad : (mtc (ar 5) e (xCh 34 ++ [42]) p).1 = false → (mtc (ar 5) e (xCh 34 ++ [42]) p).2.1 = (mtc (ar 5) e (xCh 34) p).2.1 → ∃ w', f_X7_readsLayer_J44 c 1 (some c) w2 = x_ret () w' ∧ MP w' c F ar e cm 108 p (xCh 34 ++ [42]) ∧ Fr (moc c) w2 w' := fun b1 b2 => by
    have h3 := h'.sF (upd F' 21 1)
    have u20 : upd F' 21 1 20 = nI cm := by unfold upd; rw [if_neg (by omega)]; exact h20
    have u21 : upd F' 21 1 21 = 1 := by unfold upd; rw [if_pos rfl]
    have u18 : upd F' 21 1 18 = nI (mtc (ar 5) e (xCh 34) p).2.1 := by unfold upd; rw [if_neg (by omega)]; exact m1
    have h4 := h3.sA 6 (by omega) (by omega) (upd (ar' 6) (7 * cm + 1) 0)
    have e6 : x_ist (xset w2 c (.inr (7, moF c (upd F' 21 1)))) (c + 6) 0 (7 * nI cm + 1) 0 = some (wA (xset w2 c (.inr (7, moF c (upd F' 21 1)))) c 6 (upd (ar' 6) (7 * cm + 1) 0)) := by
      rw [show (1 : Int32) = nI 1 from rfl, ix7]
      exact h3.st 6 (by omega) (by omega) (i := 7 * cm + 1) (by show _ < 420; omega) 0
    have h5 := h4.sF (upd (upd F' 21 1) 18 (nI (mtc (ar 5) e (xCh 34) p).2.1))
    refine ⟨_, ?_, ⟨_, _, h5, ?_, ?_, fun k k1 k2 => ?_, fun k hk => ?_, fun j hj => ?_, ?_, fun hc => by rw [b1] at hc; cases hc⟩, ((wF_fr _).tr (wA_fr (by omega) _)).tr (wF_fr _)⟩
    · unfold f_X7_readsLayer_J44
      rw [oe, if_pos x_nar01.2, h'.p21, ob, h3.r8, ob, h3.g20, ob, u20, h3.g21, ob, u21, if_neg (by decide), oe, e6, ob, h4.g18, ob, h4.g21, ob, u18, u21, if_neg (by decide), Int32.add_zero, h4.p18, ob]
    · rw [b2]; unfold upd; rw [if_pos rfl]
    · rw [b1]; unfold upd; rw [if_neg (by omega), if_pos rfl]; rfl
    · rw [upd2 k1 k2]; exact m3 k k1 k2
    · show (if k = 6 then _ else ar' k) = ar k
      rw [if_neg hk]
      exact m4 k hk
    · show upd (ar' 6) (7 * cm + 1) 0 j = ar 6 j
      unfold upd
      rw [if_neg (by omega)]
      exact m5 j hj
    · show upd (ar' 6) (7 * cm + 1) 0 (7 * cm) = 108
      unfold upd
      rw [if_neg (by omega)]
      exact m6
  have st1 : f_X7_readsLayer c w = (if F' 21 = 0 then (if x_isO w2 c 7 = true then (x_bind (f_X7_here c 0 w2) fun r35 w34 => x_bind (f_X7_isMode r35 w34) fun r38 w37 => (if r38 = 0 then (f_X7_readsLayer_J39 c (some c) w37) else (f_X7_readsLayer_J44 c 0 (some c) w37))) else none) else (f_X7_readsLayer_J39 c (some c) w2)) := by
    simp only [f_X7_readsLayer, h.r8, ob, oe, h.g20, e1, q1.o, if_true, e2, x_br, h'.g21]
  have e7 := X7_here h' (m := 0) m1 h19 H3 (by omega) (by omega)
  rw [nI_0, Nat.add_zero, e5] at e7
  by_cases hok : (mtc (ar 5) e (xCh 34) p).1 = true
  · rw [if_pos hok] at m2 ea
    rw [st1, m2, if_pos rfl, if_pos h'.o, e7, x_br, X7_isMode, x_br]
    by_cases hn : nxtB (ar 5) e 42 (mtc (ar 5) e (xCh 34) p).2.1 = true
    · have hqe : (mtc (ar 5) e (xCh 34) p).2.1 < e := by
        unfold nxtB at hn
        simp at hn
        exact hn.1
      rw [if_pos ((mode_here (ar 5) _).mpr hn), if_neg (by decide)]
      rw [mt_cons, if_pos hn] at ea
      have h3 := h'.sF (upd F' 21 0)
      have u20 : upd F' 21 0 20 = nI cm := by unfold upd; rw [if_neg (by omega)]; exact h20
      have u21 : upd F' 21 0 21 = 0 := by unfold upd; rw [if_pos rfl]
      have u18 : upd F' 21 0 18 = nI (mtc (ar 5) e (xCh 34) p).2.1 := by unfold upd; rw [if_neg (by omega)]; exact m1
      have u19 : upd F' 21 0 19 = nI e := by unfold upd; rw [if_neg (by omega)]; exact h19
      have e8 := X7_here h3 (m := 0) u18 u19 H3 (by omega) (by omega)
      rw [nI_0, Nat.add_zero, e5, if_pos hqe] at e8
      have h4 := h3.sA 6 (by omega) (by omega) (upd (ar' 6) (7 * cm + 1) (ar 5 (mtc (ar 5) e (xCh 34) p).2.1))
      have e6 : x_ist (xset w2 c (.inr (7, moF c (upd F' 21 0)))) (c + 6) 0 (7 * nI cm + 1) (ar 5 (mtc (ar 5) e (xCh 34) p).2.1) = some (wA (xset w2 c (.inr (7, moF c (upd F' 21 0)))) c 6 (upd (ar' 6) (7 * cm + 1) (ar 5 (mtc (ar 5) e (xCh 34) p).2.1))) := by
        rw [show (1 : Int32) = nI 1 from rfl, ix7]
        exact h3.st 6 (by omega) (by omega) (i := 7 * cm + 1) (by show _ < 420; omega) _
      have h5 := h4.sF (upd (upd F' 21 0) 18 (nI ((mtc (ar 5) e (xCh 34) p).2.1 + 1)))
      have ek : (mtc (ar 5) e (xCh 34) p).2.2.2 = nmb (xCh 34) := mtc_k hok
      rw [(wd_pl 34 (by omega) (by omega)).2] at ek
      refine ⟨_, ?_, ⟨_, _, h5, ?_, ?_, fun k k1 k2 => ?_, fun k hk => ?_, fun j hj => ?_, ?_, fun _ i hi => ?_⟩, (((f1.tr f2).tr (wF_fr _)).tr (wA_fr (by omega) _)).tr (wF_fr _)⟩
      · unfold f_X7_readsLayer_J44
        rw [oe, if_pos x_nar01.1, h'.p21, ob, h3.r8, ob, h3.g20, ob, u20, h3.g21, ob, u21, if_pos rfl, if_pos h3.o, e8, x_br, oe, e6, ob, h4.g18, ob, h4.g21, ob, u18, u21, if_pos rfl, ← nI_succ, h4.p18, ob]
      · rw [ea]; unfold upd; rw [if_pos rfl]; rfl
      · rw [ea]; unfold upd; rw [if_neg (by omega), if_pos rfl]; rfl
      · rw [upd2 k1 k2]; exact m3 k k1 k2
      · show (if k = 6 then _ else ar' k) = ar k
        rw [if_neg hk]
        exact m4 k hk
      · show upd (ar' 6) (7 * cm + 1) _ j = ar 6 j
        unfold upd
        rw [if_neg (by omega)]
        exact m5 j hj
      · show upd (ar' 6) (7 * cm + 1) _ (7 * cm) = 108
        unfold upd
        rw [if_neg (by omega)]
        exact m6
      · rw [ea] at hi ⊢
        generalize mtc (ar 5) e (xCh 34) p = R at hi ek ⊢
        have hi' : i < R.2.2.2 + 1 := hi
        have i0 : i = 0 := by omega
        subst i0
        show upd (ar' 6) (7 * cm + 1) _ (7 * cm + 1 + 0) = upd R.2.2.1 R.2.2.2 (ar 5 R.2.1) 0
        unfold upd
        rw [if_pos rfl, if_pos (by omega)]
    · rw [if_neg (fun hc => hn ((mode_here (ar 5) _).mp hc)), if_pos rfl]
      rw [mt_cons, if_neg hn, if_neg (by decide)] at ea
      obtain ⟨w', a1, a2, a3⟩ := bad (by rw [ea]) (by rw [ea])
      exact ⟨w', a1, a2, (f1.tr f2).tr a3⟩
  · rw [if_neg hok] at m2 ea
    rw [st1, m2, if_neg (by decide)]
    obtain ⟨w', a1, a2, a3⟩ := bad (by rw [ea]; simpa using hok) (by rw [ea])
    exact ⟨w', a1, a2, (f1.tr f2).tr a3⟩
end X7w
