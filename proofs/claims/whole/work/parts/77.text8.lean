/-! ===== texts: the model reads a whole text ===== -/
section TC
variable {t t' : Nat → Int32} {n : Nat}
theorem nxt_cg (h : ∀ i, i < n → t i = t' i) (s : Int32) (p : Nat) : nxtB t n s p = nxtB t' n s p := by
  unfold nxtB
  by_cases hp : p < n
  · rw [h p hp]
  · simp [hp]
theorem mt_cg (h : ∀ i, i < n → t i = t' i) : ∀ (l : List Int32) (p : Nat) (u : Nat → Int32) (k : Nat), mt t n l p u k = mt t' n l p u k
  | [], _, _, _ => rfl
  | s :: r, p, u, k => by
    rw [mt_cons, mt_cons, nxt_cg h s p]
    by_cases hn : nxtB t' n s p = true
    · have hp : p < n := by
        unfold nxtB at hn
        simp at hn
        exact hn.1
      rw [if_pos hn, if_pos hn, h p hp]
      exact mt_cg h r _ _ _
    · rw [if_neg hn, if_neg hn]
      by_cases h3 : s = 43
      · rw [if_pos h3, if_pos h3]
        exact mt_cg h r _ _ _
      · rw [if_neg h3, if_neg h3]
theorem sel_cg (h : ∀ i, i < n → t i = t' i) (p : Nat) : sel t n p = sel t' n p := by
  unfold sel
  by_cases hp : p < n
  · rw [if_pos hp, if_pos hp, h p hp]
    have e : (p + 1 < n ∧ t (p + 1) = 111) = (p + 1 < n ∧ t' (p + 1) = 111) := propext ⟨fun k => ⟨k.1, by rw [← h _ k.1]; exact k.2⟩, fun k => ⟨k.1, by rw [h _ k.1]; exact k.2⟩⟩
    simp only [e]
  · rw [if_neg hp, if_neg hp]
theorem rdG_cg (h : ∀ i, i < n → t i = t' i) : rdG t n = rdG t' n := by
  funext p
  unfold rdG
  rw [sel_cg h p]
  cases sel t' n p with
  | none => rfl
  | some j =>
    have e : mtc t n (fm j) p = mtc t' n (fm j) p := mt_cg h (fm j) p _ 0
    show ((mtc t n (fm j) p).1, (mtc t n (fm j) p).2.1, j, (mtc t n (fm j) p).2.2.1) = _
    rw [e]
end TC
/-- what has been told of a chain of commands -/
def TlR (t : Nat → Int32) (n : Nat) (td : Nat → Int32) : Nat → Nat → Nat → Prop
  | 0, _, _ => True
  | m + 1, k, p => td (7 * k) = srt (rdG t n p).2.2.1 ∧ (∀ i, i < nmb (fm (rdG t n p).2.2.1) → td (7 * k + 1 + i) = (rdG t n p).2.2.2 i) ∧ TlR t n td m (k + 1) ((rdG t n p).2.1 + 1)
theorem fm_n6 : ∀ j, nmb (fm j) ≤ 6 := fun j => by
  have h : j = 0 ∨ j = 1 ∨ j = 2 ∨ j = 3 ∨ j = 4 ∨ j = 5 ∨ j = 6 ∨ 7 ≤ j := by omega
  rcases h with rfl | rfl | rfl | rfl | rfl | rfl | rfl | h7
  · decide
  · decide
  · decide
  · decide
  · decide
  · decide
  · decide
  · obtain ⟨j, rfl⟩ : ∃ i, j = i + 7 := ⟨j - 7, by omega⟩
    show nmb [99, 97, 115, 116, 32, 35, 32, 35, 43] ≤ 6
    decide
section X7y
variable {w : xW} {c : Nat} {F : Nat → Int32} {ar : Nat → Nat → Int32} {e cm p : Nat}
/-- the end of the reading -/
theorem X7_J70_bad (h : MoAt w c F ar) {q : Nat} (h18 : F 18 = nI q) (h19 : F 19 = nI e) (he : e ≤ 60) (hb : F 21 ≠ 0 ∨ q < e) (hq : q ≤ 60) : ∃ w', f_X7_runCommands_J70 c w = x_ret 0 w' ∧ MoAt w' c (upd (upd F 15 (nI q)) 0 1) ar ∧ Fr (moc c) w w' := by
  have h1 := h.sF (upd F 15 (nI q))
  obtain ⟨w2, e2, q1, q2⟩ := X7_fails h1 1
  refine ⟨w2, ?_, q1, (wF_fr _).tr q2⟩
  unfold f_X7_runCommands_J70
  rw [h.g21, ob]
  by_cases h0 : F 21 = 0
  · have hlt := hb.resolve_left (fun hc => hc h0)
    rw [if_pos h0, h.g18, ob, h.g19, ob, h18, h19, if_neg (nI_ge hlt (by omega)), ob, h.p15, ob, if_pos h1.o, e2, x_br]
  · rw [if_neg h0, h.g18, ob, h18, h.p15, ob, if_pos h1.o, e2, x_br]
theorem X7_J70_good (h : MoAt w c F ar) {q : Nat} (h18 : F 18 = nI q) (h19 : F 19 = nI e) (h21 : F 21 = 0) (he : e ≤ q) (hq : q ≤ 60) : f_X7_runCommands_J70 c w = f_X7_runCommands_L104 xfuel c 0 w := by
  unfold f_X7_runCommands_J70
  rw [h.g21, ob, h21, if_pos rfl, h.g18, ob, h.g19, ob, h18, h19, if_pos (nI_le he (by omega))]
/-- behind the reading: malformed, or on to the doing -/
def RdZ (c : Nat) (F : Nat → Int32) (ar : Nat → Nat → Int32) (t : Nat → Int32) (e cm p : Nat) (R : Bool × Nat × Nat) (w w' : xW) (f : xO Int32) : Prop :=
  ∃ F' ar', MoAt w' c F' ar' ∧ Fr (moc c) w w' ∧ (∀ k, k ≠ 0 → k ≠ 15 → k ≠ 18 → k ≠ 20 → k ≠ 21 → F' k = F k) ∧ (∀ k, k ≠ 6 → ar' k = ar k) ∧
    ((R.1 = false ∧ f = x_ret 0 w' ∧ F' 15 = nI R.2.1 ∧ F' 0 = 1) ∨ (R.1 = true ∧ f = f_X7_runCommands_L104 xfuel c 0 w' ∧ F' 0 = F 0 ∧ F' 15 = F 15 ∧ F' 20 = nI R.2.2 ∧ ∃ m, R.2.2 = cm + (m + 1) ∧ TlR t e (ar' 6) (m + 1) cm p))
theorem TlR_keep {t : Nat → Int32} {n : Nat} {td td' : Nat → Int32} : ∀ (m k p : Nat), (∀ j, 7 * k ≤ j → td' j = td j) → TlR t n td m k p → TlR t n td' m k p
  | 0, _, _, _, _ => trivial
  | m + 1, k, p, h, q => ⟨(h _ (by omega)).trans q.1, fun i hi => (h _ (by omega)).trans (q.2.1 i hi), TlR_keep m (k + 1) _ (fun j hj => h j (by omega)) q.2.2⟩
theorem X7_read_L {t : Nat → Int32} (he : e ≤ 60) : ∀ (f n cm p : Nat) (w : xW) (F : Nat → Int32) (ar : Nat → Nat → Int32), f < n → 1 ≤ f → e ≤ p + f → p ≤ e → 2 * cm ≤ p → (∀ i, i < e → ar 5 i = t i) → MoAt w c F ar → F 18 = nI (rdG t e p).2.1 → F 19 = nI e → F 20 = nI (cm + 1) → F 21 = (if (rdG t e p).1 = true then 0 else 1) →
    ((rdG t e p).1 = true → ar 6 (7 * cm) = srt (rdG t e p).2.2.1 ∧ ∀ i, i < nmb (fm (rdG t e p).2.2.1) → ar 6 (7 * cm + 1 + i) = (rdG t e p).2.2.2 i) →
    ∃ w', RdZ c F ar t e cm p (prs t e f p cm) w w' (f_X7_runCommands_L36 n c w) ∧ ∃ F' ar', MoAt w' c F' ar' ∧ ∀ j, j < 7 * (cm + 1) → ar' 6 j = ar 6 j := by
  intro f
  induction f with
  | zero => intro n cm p w F ar _ h1; exact absurd h1 (by omega)
  | succ f ih =>
    intro n cm p w F ar hn h1 hpf hpe hcm ht h h18 h19 h20 h21 htd
    obtain ⟨n, rfl⟩ : ∃ m, n = m + 1 := ⟨n - 1, by omega⟩
    have hle := rdG_le (t := t) hpe
    have egt : rdG (ar 5) e = rdG t e := rdG_cg ht
    have e1 := X7_here h (m := 0) h18 h19 he (by omega) (by omega)
    rw [nI_0, Nat.add_zero] at e1
    have bad : F 21 ≠ 0 ∨ (rdG t e p).2.1 < e → (prs t e (f + 1) p cm).1 = false → (prs t e (f + 1) p cm).2.1 = (rdG t e p).2.1 → f_X7_runCommands_L36 (n + 1) c w = f_X7_runCommands_J70 c w →
        ∃ w', RdZ c F ar t e cm p (prs t e (f + 1) p cm) w w' (f_X7_runCommands_L36 (n + 1) c w) ∧ ∃ F' ar', MoAt w' c F' ar' ∧ ∀ j, j < 7 * (cm + 1) → ar' 6 j = ar 6 j := fun hb b1 b2 b3 => by
      obtain ⟨w', e2, q1, q2⟩ := X7_J70_bad h h18 h19 he hb (by omega)
      refine ⟨w', ⟨_, ar, q1, q2, fun k k1 k2 k3 k4 k5 => by unfold upd; rw [if_neg k1, if_neg k2], fun _ _ => rfl, Or.inl ⟨b1, b3.trans e2, ?_, by unfold upd; rw [if_pos rfl]⟩⟩, ⟨_, ar, q1, fun _ _ => rfl⟩⟩
      rw [b2]
      unfold upd
      rw [if_neg (by omega), if_pos rfl]
    by_cases hok : (rdG t e p).1 = true
    · rw [if_pos hok] at h21
      have st1 : f_X7_runCommands_L36 (n + 1) c w = (if (if (rdG t e p).2.1 < e then ar 5 (rdG t e p).2.1 else -1) = (59 : Int32) then ((x_geti w c 7 18).bind fun v55 => (x_put w c 7 18 (.int (v55 + 1))).bind fun w56 => if x_isO w56 c 7 = true then (x_bind (f_X7_readsOne c w56) fun _ w57 => f_X7_runCommands_L36 n c w57) else none) else (f_X7_runCommands_J70 c w)) := by
        simp only [f_X7_runCommands_L36]
        rw [h.g21, ob, h21, if_pos rfl, if_pos h.o, e1, x_br]
      by_cases h2 : e ≤ (rdG t e p).2.1
      · have hp : prs t e (f + 1) p cm = (true, (rdG t e p).2.1, cm + 1) := by
          unfold prs
          rw [if_pos hok, if_pos h2]
        refine ⟨w, ⟨F, ar, h, Fr.rf, fun _ _ _ _ _ _ => rfl, fun _ _ => rfl, Or.inr ⟨by rw [hp], ?_, rfl, rfl, by rw [hp]; exact h20, 0, by rw [hp], (htd hok).1, (htd hok).2, trivial⟩⟩, ⟨F, ar, h, fun _ _ => rfl⟩⟩
        rw [st1, if_neg (by rw [if_neg (by omega)]; decide), X7_J70_good h h18 h19 h21 h2 (by omega)]
      · by_cases h3 : t (rdG t e p).2.1 = 59
        · have hp : prs t e (f + 1) p cm = prs t e f ((rdG t e p).2.1 + 1) (cm + 1) := by
            conv => lhs; unfold prs
            rw [if_pos hok, if_neg h2, if_pos h3]
          have hgt := (rdG_gt hok).1
          have h4 := h.sF (upd F 18 (nI ((rdG t e p).2.1 + 1)))
          have u18 : upd F 18 (nI ((rdG t e p).2.1 + 1)) 18 = nI ((rdG t e p).2.1 + 1) := by unfold upd; rw [if_pos rfl]
          have u19 : upd F 18 (nI ((rdG t e p).2.1 + 1)) 19 = nI e := by unfold upd; rw [if_neg (by omega)]; exact h19
          have u20 : upd F 18 (nI ((rdG t e p).2.1 + 1)) 20 = nI (cm + 1) := by unfold upd; rw [if_neg (by omega)]; exact h20
          have u21 : upd F 18 (nI ((rdG t e p).2.1 + 1)) 21 = 0 := by unfold upd; rw [if_neg (by omega)]; exact h21
          obtain ⟨w5, e5, F5, ar5, q1, q2, q3, q4, q5, q6, q7, q8, q9⟩ := X7_readsOne (e := e) (cm := cm + 1) (p := (rdG t e p).2.1 + 1) ⟨u19, u20, he, by omega, by omega⟩ h4 u18 u21
          rw [egt] at q3 q5 q9
          obtain ⟨w6, ⟨F6, ar6, r1, r2, r3, r4, r5⟩, F7, ar7, r6, r7⟩ := ih n (cm + 1) ((rdG t e p).2.1 + 1) w5 F5 ar5 (by omega) (by omega) (by omega) (by omega) (by omega) (fun i hi => by rw [q7 5 (by omega)]; exact ht i hi) q1 q3 (by rw [q6 19 (by omega) (by omega) (by omega)]; exact u19) q4 q5 q9
          have hA : ar6 = ar7 ∨ ∀ j, j < 420 → ar6 6 j = ar7 6 j := by
            refine Or.inr (fun j hj => ?_)
            have a1 := r1.ld 6 (by omega) (by omega) (i := j) hj
            have a2 := r6.ld 6 (by omega) (by omega) (i := j) hj
            rw [a1] at a2
            exact Option.some.inj a2
          have k7 : ∀ j, j < 7 * (cm + 1) → ar6 6 j = ar 6 j := fun j hj => by
            have a1 : ar6 6 j = ar7 6 j := by
              rcases hA with hA | hA
              · rw [hA]
              · exact hA j (by omega)
            rw [a1, r7 j (by omega), q8 j hj]
          have st2 : f_X7_runCommands_L36 (n + 1) c w = f_X7_runCommands_L36 n c w5 := by
            rw [st1, if_pos (by rw [if_pos (by omega), ht _ (by omega)]; exact h3), h.g18, ob, h18, ← nI_succ, h.p18, ob, if_pos h4.o, e5, x_br]
          refine ⟨w6, ⟨F6, ar6, r1, ((wF_fr _).tr q2).tr r2, fun k k1 k2 k3 k4 k5 => ?_, fun k hk => (r4 k hk).trans (q7 k hk), ?_⟩, ⟨F6, ar6, r1, k7⟩⟩
          · rw [r3 k k1 k2 k3 k4 k5, q6 k k3 k4 k5]
            unfold upd
            rw [if_neg k3]
          · rw [hp, st2]
            rcases r5 with ⟨s1, s2, s3, s4⟩ | ⟨s1, s2, s3, s4, s5, m, s6, s7⟩
            · exact Or.inl ⟨s1, s2, s3, s4⟩
            · refine Or.inr ⟨s1, s2, ?_, ?_, s5, m + 1, by rw [s6]; omega, ?_, fun i hi => ?_, s7⟩
              · rw [s3, q6 0 (by omega) (by omega) (by omega)]; unfold upd; rw [if_neg (by omega)]
              · rw [s4, q6 15 (by omega) (by omega) (by omega)]; unfold upd; rw [if_neg (by omega)]
              · rw [k7 _ (by omega)]; exact (htd hok).1
              · have h6 := fm_n6 (rdG t e p).2.2.1
                rw [k7 _ (by omega)]
                exact (htd hok).2 i hi
        · have hp : prs t e (f + 1) p cm = (false, (rdG t e p).2.1, cm) := by
            unfold prs
            rw [if_pos hok, if_neg h2, if_neg h3]
          refine bad (Or.inr (by omega)) (by rw [hp]) (by rw [hp]) ?_
          rw [st1, if_neg (by rw [if_pos (by omega), ht _ (by omega)]; exact h3)]
    · have hp : prs t e (f + 1) p cm = (false, (rdG t e p).2.1, cm) := by
        unfold prs
        rw [if_neg hok]
      rw [if_neg hok] at h21
      refine bad (Or.inl (by rw [h21]; decide)) (by rw [hp]) (by rw [hp]) ?_
      simp only [f_X7_runCommands_L36]
      rw [h.g21, ob, h21, if_neg (by decide)]
end X7y
