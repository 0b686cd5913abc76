/-! ===== commands carried out: the class ===== -/
section RN
variable {w : xW} {z : Nat} {γ : CG} {t u : Nat → Int32} {n p k : Nat} {kd : Int32}
/-- what a command may touch -/
def cmc (z : Nat) : Nat → Prop := fun q => blk (z + 1) q ∨ fwc (z + 157) q
theorem cmc_clc {w1 w2 : xW} (h : Fr (cmc z) w1 w2) : Fr (clc z) w1 w2 := h.mono (fun q hq => by unfold cmc blk fwc at hq; exact ⟨by omega, by omega⟩)
theorem C_moveF (C : Cls w z γ) (p q : Int32) : ∃ w', f_X6_moveAndCompare z p q w = x_ret (moveG γ.g p q).1 w' ∧ Cls w' z (γ.wg (moveG γ.g p q).2) ∧ Fr (cmc z) w w' := by
  have h6 := C.L.n6
  rcases posG_or γ.g h6 p with ⟨a, ha, rfl, hp⟩ | ⟨hq, hp⟩
  · rcases posG_or γ.g h6 q with ⟨b, hb, rfl, hp'⟩ | ⟨hq', hp'⟩
    · have ev : moveG γ.g (nI a) (nI b) = (nI (cnt 48 fun c => seeG γ.g c != seeG (movG γ.g a b) c), movG γ.g a b) := by simp [moveG, hp, hp']
      obtain ⟨f0, hf, hbr⟩ := C.2.2.2.2.1
      obtain ⟨w1, f1, e1, q1, q2, q3, q4⟩ := X1_flattenB hf C.L (Or.inl (by omega))
      have C1 := C.onF q1 (by rw [q3]; exact hbr) q4
      obtain ⟨w2, e2, r1, r2⟩ := X4_shift C1.L ha hb
      have C2 := C1.onG r1 r2
      have q1' : FwAt w2 (z + 157) f1 := q1.fr r2 (fun q hq ha => by unfold fwc at hq; unfold blk at ha; omega)
      have e3 := X1_countCellsUnlike q1' r1
      have e4 : cnt 48 (fun c => f1.T c != seeG (movG γ.g a b) c) = cnt 48 fun c => seeG γ.g c != seeG (movG γ.g a b) c := cnt_congr (fun k hk => by rw [q2 k hk])
      rw [e4] at e3
      refine ⟨w2, ?_, by rw [ev]; exact C2, (q4.mono (fun q hq => Or.inr hq)).tr (r2.mono (fun q hq => Or.inl hq))⟩
      rw [ev]
      simp only [f_X6_moveAndCompare, C.r0, ob, oe, C.L.o, if_true, X4_at C.L ha, X4_at C.L hb, x_br, C.r4, hf.o, e1, C1.r0, C1.L.o]
      rw [e2, x_br, C2.r4, ob, C2.r0, ob, oe, if_pos q1'.o, e3, x_br]
    · refine ⟨w, ?_, by rw [show moveG γ.g (nI a) q = (-2, γ.g) by simp [moveG, hp, hp']]; exact C, Fr.rf⟩
      rw [show moveG γ.g (nI a) q = (-2, γ.g) by simp [moveG, hp, hp']]
      simp only [f_X6_moveAndCompare, C.r0, ob, oe, C.L.o, if_true, X4_at C.L ha, X4_at_no C.L hq', x_br, oen]
  · refine ⟨w, ?_, by rw [show moveG γ.g p q = (-2, γ.g) by simp [moveG, hp]]; exact C, Fr.rf⟩
    rw [show moveG γ.g p q = (-2, γ.g) by simp [moveG, hp]]
    simp only [f_X6_moveAndCompare, C.r0, ob, oe, C.L.o, if_true, X4_at_no C.L hq, x_br, oen]
theorem C_runF (C : Cls w z γ) {f : xO Int32} {r : Int32 × WL} (h : Run (z + 1) w f r) : ∃ w', f = x_ret r.1 w' ∧ Cls w' z (γ.wg r.2) ∧ Fr (cmc z) w w' := by
  obtain ⟨w', e, q1, q2⟩ := h
  exact ⟨w', e, C.onG q1 q2, q2.mono (fun q hq => Or.inl hq)⟩
/-- a command carried out -/
theorem C_cmd (C : Cls w z γ) {j : Nat} (hj : j < 8) (hT : CtAt w (z + 163) t n p (nI j) u k) {v : Nat → Int32} (hu : ∀ i, i < nmb (fm j) → u i = v i) (h0 : j = 0 → x_c (v 0) = v 0) :
    ∃ w', f_X6_carryOut z (some (z + 163)) w = x_ret (cmdG γ.g j v).1 w' ∧ Cls w' z (γ.wg (cmdG γ.g j v).2) ∧ Fr (cmc z) w w' := by
  have nu : ∀ i, i < 6 → f_X0_number (z + 163) (nI i) w = x_ret (u i) w := fun i hi => X0_number hT hi
  have n0 : f_X0_number (z + 163) 0 w = x_ret (u 0) w := nu 0 (by omega)
  have n1 : f_X0_number (z + 163) 1 w = x_ret (u 1) w := nu 1 (by omega)
  have n2 : f_X0_number (z + 163) 2 w = x_ret (u 2) w := nu 2 (by omega)
  have n3 : f_X0_number (z + 163) 3 w = x_ret (u 3) w := nu 3 (by omega)
  have n4 : f_X0_number (z + 163) 4 w = x_ret (u 4) w := nu 4 (by omega)
  have n5 : f_X0_number (z + 163) 5 w = x_ret (u 5) w := nu 5 (by omega)
  have hjj : j = 0 ∨ j = 1 ∨ j = 2 ∨ j = 3 ∨ j = 4 ∨ j = 5 ∨ j = 6 ∨ j = 7 := by omega
  unfold f_X6_carryOut
  rw [oe, if_pos hT.o, n0, x_br, if_pos hT.o, n1, x_br, hT.g3, ob]
  rcases hjj with rfl | rfl | rfl | rfl | rfl | rfl | rfl | rfl
  · obtain ⟨w', e, q1, q2⟩ := C_runF C (X4_addOnTop C.L (v 0))
    rw [if_pos (by decide), C.r0, ob, oe, if_pos C.L.o, hu 0 (by decide), h0 rfl, e, x_br]
    exact ⟨w', rfl, q1, q2⟩
  · obtain ⟨w', e, q1, q2⟩ := C_runF C (X4_paintRectangle C.L (v 0) (v 1) (v 2) (v 3) (v 4) (v 5))
    rw [if_neg (by decide), if_pos (by decide), C.r0, ob, if_pos hT.o, n2, x_br, if_pos hT.o, n3, x_br, if_pos hT.o, n4, x_br, if_pos hT.o, n5, x_br, oe, if_pos C.L.o, hu 0 (by decide), hu 1 (by decide), hu 2 (by decide), hu 3 (by decide), hu 4 (by decide), hu 5 (by decide), e, x_br]
    exact ⟨w', rfl, q1, q2⟩
  · obtain ⟨w', e, q1, q2⟩ := C_runF C (X4_eraseCircle C.L (v 0) (v 1) (v 2) (v 3))
    rw [if_neg (by decide), if_neg (by decide), if_pos (by decide), C.r0, ob, if_pos hT.o, n2, x_br, if_pos hT.o, n3, x_br, oe, if_pos C.L.o, hu 0 (by decide), hu 1 (by decide), hu 2 (by decide), hu 3 (by decide), e, x_br]
    exact ⟨w', rfl, q1, q2⟩
  · obtain ⟨w', e, q1, q2⟩ := C_runF C (X4_turnVisible C.L (v 0) (y := 0) (by decide))
    rw [if_neg (by decide), if_neg (by decide), if_neg (by decide), if_pos (by decide), C.r0, ob, oe, if_pos C.L.o, hu 0 (by decide), e, x_br]
    exact ⟨w', rfl, q1, q2⟩
  · obtain ⟨w', e, q1, q2⟩ := C_runF C (X4_turnVisible C.L (v 0) (y := 1) (by decide))
    rw [if_neg (by decide), if_neg (by decide), if_neg (by decide), if_neg (by decide), if_pos (by decide), C.r0, ob, oe, if_pos C.L.o, hu 0 (by decide), e, x_br]
    exact ⟨w', rfl, q1, q2⟩
  · obtain ⟨w', e, q1, q2⟩ := C_runF C (X4_merge C.L (v 0))
    rw [if_neg (by decide), if_neg (by decide), if_neg (by decide), if_neg (by decide), if_neg (by decide), if_pos (by decide), C.r0, ob, oe, if_pos C.L.o, hu 0 (by decide), e, x_br]
    exact ⟨w', rfl, q1, q2⟩
  · obtain ⟨w', e, q1, q2⟩ := C_moveF C (v 0) (v 1)
    rw [if_neg (by decide), if_neg (by decide), if_neg (by decide), if_neg (by decide), if_neg (by decide), if_neg (by decide), if_pos (by decide), if_pos C.o, hu 0 (by decide), hu 1 (by decide), e, x_br]
    exact ⟨w', rfl, q1, q2⟩
  · obtain ⟨w', e, q1, q2⟩ := C_runF C (X4_addShadow C.L (v 0) (v 1))
    rw [if_neg (by decide), if_neg (by decide), if_neg (by decide), if_neg (by decide), if_neg (by decide), if_neg (by decide), if_neg (by decide), if_pos (by decide), C.r0, ob, oe, if_pos C.L.o, hu 0 (by decide), hu 1 (by decide), e, x_br]
    exact ⟨w', rfl, q1, q2⟩
/-- the mode's letter is one -/
theorem lay_ch {t : Nat → Int32} {n p : Nat} (h : (rdG t n p).1 = true) (h0 : (rdG t n p).2.2.1 = 0) : x_c ((rdG t n p).2.2.2 0) = (rdG t n p).2.2.2 0 := by
  cases hs : sel t n p with
  | none => rw [rdG_none hs] at h; cases h
  | some j =>
    rw [rdG_some hs] at h h0 ⊢
    have hj : j = 0 := h0
    subst hj
    obtain ⟨s0, -⟩ := fm_sp
    have h' : (mtc t n (fm 0) p).1 = true := h
    show x_c ((mtc t n (fm 0) p).2.2.1 0) = (mtc t n (fm 0) p).2.2.1 0
    rw [s0] at h' ⊢
    have n34 : nmb (xCh 34) = 0 := (wd_pl 34 (by omega) (by omega)).2
    generalize xCh 34 = A at h' n34 ⊢
    have ea := mtc_app t n A [42] p
    by_cases hok : (mtc t n A p).1 = true
    · have ek := mtc_k hok
      rw [if_pos hok, mt_cons] at ea
      by_cases hn : nxtB t n 42 (mtc t n A p).2.1 = true
      · rw [if_pos hn] at ea
        rw [ea]
        have e0 : isM (t (mtc t n A p).2.1) = true := by
          unfold nxtB fitB at hn
          rw [if_pos rfl] at hn
          simp at hn
          exact hn.2
        have e1 : (mt t n [] ((mtc t n A p).2.1 + 1) (tkU 42 (t (mtc t n A p).2.1) (mtc t n A p).2.2.1 (mtc t n A p).2.2.2) (tkK 42 (mtc t n A p).2.2.2)).2.2.1 0 = t (mtc t n A p).2.1 := by
          show upd (mtc t n A p).2.2.1 (mtc t n A p).2.2.2 (t (mtc t n A p).2.1) 0 = _
          unfold upd
          rw [if_pos (by omega)]
        rw [e1]
        exact isM_nar e0
      · rw [if_neg hn, if_neg (by decide)] at ea
        rw [ea] at h'
        cases h'
    · rw [if_neg hok] at ea
      rw [ea] at h'
      exact absurd h' hok
/-- commands carried out until one fails -/
theorem C_exe_L : ∀ (m k p fu : Nat) (w : xW) (γ : CG), m < fu → k + m ≤ 60 → Cls w z γ → chn γ.tx γ.n m p → (0 < m → ∃ kd u kk, CtAt w (z + 163) γ.tx γ.n p kd u kk) →
    ∃ w', f_X6_carryOutUntilFailure_L9 fu z (nI (k + m)) (nI k) w = x_ret (exeG γ.tx γ.n m k p γ.g).1 w' ∧ Cls w' z (γ.wg (exeG γ.tx γ.n m k p γ.g).2) ∧ Fr (clc z) w w' := by
  intro m
  induction m with
  | zero =>
    intro k p fu w γ hfu hk C hch hT
    obtain ⟨fu, rfl⟩ : ∃ m, fu = m + 1 := ⟨fu - 1, by omega⟩
    refine ⟨w, ?_, C, Fr.rf⟩
    simp only [f_X6_carryOutUntilFailure_L9]
    rw [if_pos (nI_le (by omega) (by omega))]
    rfl
  | succ m ih =>
    intro k p fu w γ hfu hk C hch hT
    obtain ⟨fu, rfl⟩ : ∃ m, fu = m + 1 := ⟨fu - 1, by omega⟩
    obtain ⟨c1, c2, c3, c4⟩ := hch
    obtain ⟨kd, u, kk, hT⟩ := hT (Nat.succ_pos m)
    obtain ⟨w1, kd1, u1, k1, e1, q1, q2, q3⟩ := X0_readCommand hT c1
    obtain ⟨a1, a2⟩ := q3 c2
    have C1 : Cls w1 z γ := C.onT q1 q2
    have h8 := (rdG_gt c2).2
    rw [a1] at q1
    obtain ⟨w2, e2, C2, f2⟩ := C_cmd C1 h8 q1 a2 (fun h0 => lay_ch c2 h0)
    have q4 := q1.fr f2 (fun q hq ha => by unfold ctc at hq; unfold cmc blk fwc at ha; omega)
    have n60 := q4.2.2.2.1
    have f1 : Fr (clc z) w w1 := q2.mono (fun q hq => by unfold ctc at hq; exact ⟨by omega, by omega⟩)
    simp only [f_X6_carryOutUntilFailure_L9]
    rw [if_neg (nI_ge (by omega) (by omega)), C.r5, ob, oe, if_pos hT.o, e1, x_br, C1.r5, ob, if_pos C1.o, e2, x_br]
    unfold exeG
    by_cases hneg : (cmdG γ.g (rdG γ.tx γ.n p).2.2.1 (rdG γ.tx γ.n p).2.2.2).1 < 0
    · rw [if_neg (fun h9 => Int32.not_le.mpr hneg h9), if_pos hneg]
      exact ⟨w2, rfl, C2, f1.tr (cmc_clc f2)⟩
    · rw [if_pos (Int32.not_lt.mp hneg), if_neg hneg, C2.r5, ob, oe, if_pos q4.o]
      have hle := rdG_le (t := γ.tx) c1
      obtain ⟨w3, e3, q5, q6⟩ := X0_skip q4 (by
        by_cases hp : (rdG γ.tx γ.n p).2.1 < 60
        · exact Or.inl hp
        · exact Or.inr (fun hc => by have := hc.1; omega))
      have C3 : Cls w3 z (γ.wg (cmdG γ.g (rdG γ.tx γ.n p).2.2.1 (rdG γ.tx γ.n p).2.2.2).2) := C2.onT q5 q6
      have f3 : Fr (clc z) w2 w3 := q6.mono (fun q hq => by unfold ctc at hq; exact ⟨by omega, by omega⟩)
      obtain ⟨w4, e4, C4, f4⟩ := ih (k + 1) ((rdG γ.tx γ.n p).2.1 + 1) fu w3 _ (by omega) (by omega) C3 c4 (fun hm => by
        have hcd := c3.resolve_left (by omega)
        rw [if_pos hcd] at q5
        exact ⟨_, _, _, q5⟩)
      refine ⟨w4, ?_, C4, ((f1.tr (cmc_clc f2)).tr f3).tr f4⟩
      rw [e3, x_br, ← nI_succ, show k + (m + 1) = k + 1 + m by omega]
      exact e4
theorem C_exe (C : Cls w z γ) {m : Nat} (hm : m ≤ 60) (hch : chn γ.tx γ.n m 0) :
    ∃ w', f_X6_carryOutUntilFailure z (nI m) w = x_ret (exeG γ.tx γ.n m 0 0 γ.g).1 w' ∧ Cls w' z (γ.wg (exeG γ.tx γ.n m 0 0 γ.g).2) ∧ Fr (clc z) w w' := by
  obtain ⟨p, kd, u, k, hT⟩ := C.2.2.2.2.2.1
  have hT1 := hT.sO hT.2.2.2.1 (show 0 ≤ 60 by omega) kd k
  have C1 : Cls (xset w (z + 163) (ctV (z + 163) γ.n 0 kd (nI k))) z γ := C.onT hT1 ct_fr0
  obtain ⟨w', e, q1, q2⟩ := C_exe_L (z := z) m 0 0 xfuel _ γ (by unfold xfuel; omega) (by omega) C1 hch (fun _ => ⟨_, _, _, hT1⟩)
  refine ⟨w', ?_, q1, (ct_fr0.mono (fun q hq => by unfold ctc at hq; exact ⟨by omega, by omega⟩)).tr q2⟩
  unfold f_X6_carryOutUntilFailure f_X0_rewind
  rw [C.r5, ob, oe, if_pos hT.o, show (0 : Int32) = nI 0 from rfl, hT.p2, ob, x_br]
  rw [Nat.zero_add] at e
  exact e
/-- the text forgotten -/
theorem C_clear (C : Cls w z γ) : ∃ w', f_X0_clear (z + 163) w = x_ret () w' ∧ Cls w' z (γ.wt γ.tx 0) ∧ Fr (clc z) w w' := by
  obtain ⟨p, kd, u, k, hT⟩ := C.2.2.2.2.2.1
  have hT1 := hT.sO (n' := 0) (by omega) hT.2.2.2.2 kd k
  refine ⟨_, ?_, C.onT hT1 ct_fr0, ct_fr0.mono (fun q hq => by unfold ctc at hq; exact ⟨by omega, by omega⟩)⟩
  unfold f_X0_clear
  rw [show (0 : Int32) = nI 0 from rfl, hT.p1, ob]
theorem prs_cnt {t : Nat → Int32} {n : Nat} : ∀ (f p c : Nat), (prs t n f p c).2.2 ≤ c + f
  | 0, p, c => Nat.le_refl _
  | f + 1, p, c => by
    unfold prs
    split
    · split
      · show c + 1 ≤ _; omega
      · split
        · have := prs_cnt (t := t) (n := n) f ((rdG t n p).2.1 + 1) (c + 1)
          omega
        · show c ≤ _; omega
    · show c ≤ _; omega
end RN
