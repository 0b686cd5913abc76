/-! ===== texts: a command read; all commands counted ===== -/
/-- merge and move begin alike -/
theorem m_two {t : Nat → Int32} {n p : Nat} (hp : p < n) (ht : t p = 109) : (if p + 1 < n ∧ t (p + 1) = 111 then (mtc t n (fm 5) p).1 = false ∧ (mtc t n (fm 5) p).2.1 = p + 1 else (mtc t n (fm 6) p).1 = false ∧ (mtc t n (fm 6) p).2.1 = p + 1) ∧
    p + 1 ≤ (mtc t n (fm 5) p).2.1 ∧ (p + 1 < n ∧ t (p + 1) = 111 → p + 2 ≤ (mtc t n (fm 6) p).2.1) := by
  have e5 : fm 5 = 109 :: 101 :: (fm 5).tail.tail := by decide
  have e6 : fm 6 = 109 :: 111 :: (fm 6).tail.tail := by decide
  have n1 : nxtB t n 109 p = true := (nxt_pl (by decide)).mpr ⟨hp, ht⟩
  refine ⟨?_, ?_, fun h => ?_⟩
  · by_cases h : p + 1 < n ∧ t (p + 1) = 111
    · rw [if_pos h]
      unfold mtc
      rw [e5, mt_cons, if_pos n1, mt_cons, if_neg (fun hc => ?_), if_neg (by decide)]
      · exact ⟨rfl, rfl⟩
      · have h2 := ((nxt_pl (s := 101) (by decide)).mp hc).2
        rw [h.2] at h2
        exact absurd h2 (by decide)
    · rw [if_neg h]
      unfold mtc
      rw [e6, mt_cons, if_pos n1, mt_cons, if_neg (fun hc => h ((nxt_pl (s := 111) (by decide)).mp hc)), if_neg (by decide)]
      exact ⟨rfl, rfl⟩
  · unfold mtc
    rw [e5, mt_cons, if_pos n1]
    exact mt_ge t n _ _ _ _
  · unfold mtc
    rw [e6, mt_cons, if_pos n1, mt_cons, if_pos ((nxt_pl (s := 111) (by decide)).mpr h)]
    exact mt_ge t n _ _ _ _
/-- where the chosen form ends -/
def enS (t : Nat → Int32) (n p : Nat) : Nat := match sel t n p with
  | none => p
  | some j => (mtc t n (fm j) p).2.1
theorem sel_m {t : Nat → Int32} {n p : Nat} (hp : p < n) (ht : t p = 109) : sel t n p = if p + 1 < n ∧ t (p + 1) = 111 then some 6 else some 5 := by
  unfold sel
  rw [if_pos hp, ht, if_neg (by decide), if_neg (by decide), if_neg (by decide), if_neg (by decide), if_pos rfl]
theorem sel_other {t : Nat → Int32} {n p j : Nat} (hj : j < 8) (h : sel t n p ≠ some j) : (mtc t n (fm j) p).1 = false ∧ (mtc t n (fm j) p).2.1 ≤ enS t n p := by
  have ge : p ≤ enS t n p := by
    unfold enS
    split
    · exact Nat.le_refl _
    · exact mt_ge t n _ _ _ _
  by_cases h1 : p < n ∧ t p = hd j
  · by_cases h5 : j = 5
    · subst h5
      have hm := sel_m h1.1 h1.2
      have ht := m_two h1.1 h1.2
      by_cases h9 : p + 1 < n ∧ t (p + 1) = 111
      · rw [if_pos h9] at ht hm
        refine ⟨ht.1.1, ?_⟩
        rw [ht.1.2]
        unfold enS
        rw [hm]
        have := ht.2.2 h9
        show p + 1 ≤ (mtc t n (fm 6) p).2.1
        omega
      · rw [if_neg h9] at hm
        exact absurd hm h
    · by_cases h6 : j = 6
      · subst h6
        have hm := sel_m h1.1 h1.2
        have ht := m_two h1.1 h1.2
        by_cases h9 : p + 1 < n ∧ t (p + 1) = 111
        · rw [if_pos h9] at hm
          exact absurd hm h
        · rw [if_neg h9] at ht hm
          refine ⟨ht.1.1, ?_⟩
          rw [ht.1.2]
          unfold enS
          rw [hm]
          exact ht.2.1
      · exact absurd (sel_some hj h1.1 h1.2 h5 h6) h
  · obtain ⟨a, b⟩ := mtc_no hj h1
    exact ⟨a, by rw [b]; exact ge⟩
/-- one command read: does it fit, where does it end, its form, its numbers -/
def rdG (t : Nat → Int32) (n p : Nat) : Bool × Nat × Nat × (Nat → Int32) := match sel t n p with
  | none => (false, p, 8, fun _ => 0)
  | some j => ((mtc t n (fm j) p).1, (mtc t n (fm j) p).2.1, j, (mtc t n (fm j) p).2.2.1)
theorem rdG_some {t : Nat → Int32} {n p j : Nat} (h : sel t n p = some j) : rdG t n p = ((mtc t n (fm j) p).1, (mtc t n (fm j) p).2.1, j, (mtc t n (fm j) p).2.2.1) := by unfold rdG; rw [h]
theorem rdG_none {t : Nat → Int32} {n p : Nat} (h : sel t n p = none) : rdG t n p = (false, p, 8, fun _ => 0) := by unfold rdG; rw [h]
theorem rdG_en (t : Nat → Int32) (n p : Nat) : (rdG t n p).2.1 = enS t n p := by
  unfold rdG enS
  split <;> rfl
theorem rdG_ge (t : Nat → Int32) (n p : Nat) : p ≤ (rdG t n p).2.1 := by
  rw [rdG_en]
  unfold enS
  split
  · exact Nat.le_refl _
  · exact mt_ge t n _ _ _ _
theorem rdG_le {t : Nat → Int32} {n p : Nat} (h : p ≤ n) : (rdG t n p).2.1 ≤ n := by
  rw [rdG_en]
  unfold enS
  split
  · exact h
  · exact mt_le t n _ _ _ _ h
/-- what fits takes a character at least -/
theorem rdG_gt {t : Nat → Int32} {n p : Nat} (h : (rdG t n p).1 = true) : p + 1 ≤ (rdG t n p).2.1 ∧ (rdG t n p).2.2.1 < 8 := by
  cases hs : sel t n p with
  | none =>
    rw [rdG_none hs] at h
    cases h
  | some j =>
    obtain ⟨h8, hp, ht⟩ := sel_lt hs
    rw [rdG_some hs]
    refine ⟨?_, h8⟩
    show p + 1 ≤ (mtc t n (fm j) p).2.1
    unfold mtc
    rw [fm_hd j h8, mt_cons, if_pos ((nxt_pl (hd_pl j h8)).mpr ⟨hp, ht⟩)]
    exact mt_ge t n _ _ _ _
section X0c
variable {w : xW} {a n p k : Nat} {kd : Int32} {t u : Nat → Int32}
theorem X0_readCommand (h : CtAt w a t n p kd u k) (hp : p ≤ n) :
    ∃ w' kd2 u2 k2, f_X0_readCommand a w = x_ret (if (rdG t n p).1 = true then 1 else 0) w' ∧ CtAt w' a t n (rdG t n p).2.1 kd2 u2 k2 ∧ Fr (ctc a) w w' ∧ ((rdG t n p).1 = true → kd2 = nI (rdG t n p).2.2.1 ∧ ∀ i, i < nmb (fm (rdG t n p).2.2.1) → u2 i = (rdG t n p).2.2.2 i) := by
  obtain ⟨w', r, p2, kd2, u2, k2, e, q1, q2, q3⟩ := X0_cmd_L (a := a) (t := t) hp 8 0 xfuel w p kd u k (by omega) (by unfold xfuel; omega) h
  rw [nI_0] at e
  have e' : f_X0_readCommand a w = x_ret r w' := by
    unfold f_X0_readCommand
    rw [h.g2, ob]
    exact e
  rcases q3 with ⟨r1, r2, r3⟩ | ⟨j, j8, r1, r2, r3, r4, r5⟩
  · have hf : (rdG t n p).1 = false := by
      cases hs : sel t n p with
      | none => rw [rdG_none hs]
      | some j => rw [rdG_some hs]; exact r3 j (Nat.zero_le _) (sel_lt hs).1
    have hz : p2 = (rdG t n p).2.1 := by
      rw [r2, rdG_en]
      refine Nat.le_antisymm (fzF_le ?_ 8 (fun j hj => ?_)) ?_
      · rw [← rdG_en]; exact rdG_ge t n p
      · by_cases hs : sel t n p = some j
        · unfold enS; rw [hs]; exact Nat.le_refl _
        · exact (sel_other hj hs).2
      · obtain ⟨g1, g2⟩ := fzF_ge (t := t) (n := n) (p := p) 8
        unfold enS
        cases hs : sel t n p with
        | none => exact g1
        | some j => exact g2 j (sel_lt hs).1
    rw [hz] at q1
    refine ⟨w', kd2, u2, k2, ?_, q1, q2, fun hc => by rw [hf] at hc; cases hc⟩
    rw [e', r1, hf]
    rfl
  · have hs : sel t n p = some j := by
      by_cases hs : sel t n p = some j
      · exact hs
      · have := (sel_other j8 hs).1
        rw [r1] at this
        cases this
    have eg := rdG_some hs
    rw [eg]
    rw [r3] at q1
    refine ⟨w', kd2, u2, k2, ?_, q1, q2, fun _ => ⟨r4, r5⟩⟩
    rw [e', r2]
    show _ = x_ret (if (mtc t n (fm j) p).1 = true then 1 else 0) w'
    rw [r1]
    rfl
theorem X0_skip (h : CtAt w a t n p kd u k) (hp : p < 60 ∨ ¬ (p < n ∧ t p = 59)) : ∃ w', f_X0_skipSeparator a w = x_ret (if p < n ∧ t p = 59 then 1 else 0) w' ∧ CtAt w' a t n (if p < n ∧ t p = 59 then p + 1 else p) kd u k ∧ Fr (ctc a) w w' := by
  simp only [f_X0_skipSeparator, h.o, if_true, X0_isNext h, x_br]
  by_cases hc : p < n ∧ t p = 59
  · have h1 : nxtB t n 59 p = true := (nxt_pl (by decide)).mpr hc
    have h2 := h.sO h.2.2.2.1 (show p + 1 ≤ 60 by have := h.2.2.2.1; omega) kd k
    rw [h1, if_pos rfl, if_neg (by decide), h.g2, ob, ← nI_succ, h.p2, ob, if_pos (by decide), if_pos hc, if_pos hc]
    exact ⟨_, rfl, h2, ct_fr0⟩
  · have h1 : nxtB t n 59 p = false := by
      cases h9 : nxtB t n 59 p with
      | false => rfl
      | true => exact absurd ((nxt_pl (by decide)).mp h9) hc
    rw [h1, if_neg (show ¬ false = true by decide), if_pos rfl, if_pos (by decide), if_neg hc, if_neg hc]
    exact ⟨w, rfl, h, Fr.rf⟩
/-- all commands from a place on: is the text well-formed, where does the reading end, how many -/
def prs (t : Nat → Int32) (n : Nat) : Nat → Nat → Nat → Bool × Nat × Nat
  | 0, p, c => (false, p, c)
  | f + 1, p, c => if (rdG t n p).1 = true then (if n ≤ (rdG t n p).2.1 then (true, (rdG t n p).2.1, c + 1) else if t (rdG t n p).2.1 = 59 then prs t n f ((rdG t n p).2.1 + 1) (c + 1) else (false, (rdG t n p).2.1, c)) else (false, (rdG t n p).2.1, c)
theorem X0_count_L : ∀ (f fu c : Nat) (w : xW) (p : Nat) (kd : Int32) (u : Nat → Int32) (k : Nat), c + f = 60 → f < fu → CtAt w a t n p kd u k → p ≤ n →
    ∃ w' kd2 u2 k2, f_X0_countCommands_L6 fu a (nI (c + 1)) w = x_ret (if (prs t n f p c).1 = true then nI (prs t n f p c).2.2 else -1) w' ∧ CtAt w' a t n (prs t n f p c).2.1 kd2 u2 k2 ∧ Fr (ctc a) w w' := by
  intro f
  induction f with
  | zero =>
    intro fu c w p kd u k hc hfu h hp
    obtain ⟨fu, rfl⟩ : ∃ m, fu = m + 1 := ⟨fu - 1, by omega⟩
    obtain rfl : c = 60 := by omega
    refine ⟨w, kd, u, k, ?_, h, Fr.rf⟩
    simp only [f_X0_countCommands_L6]
    rw [if_pos (show (60 : Int32) < nI (60 + 1) from nI_lt (a := 60) (by omega) (by omega))]
    rfl
  | succ f ih =>
    intro fu c w p kd u k hc hfu h hp
    obtain ⟨fu, rfl⟩ : ∃ m, fu = m + 1 := ⟨fu - 1, by omega⟩
    have hn := h.2.2.2.1
    obtain ⟨w1, kd1, u1, k1, e1, q1, q2, q3⟩ := X0_readCommand h hp
    have hle := rdG_le (t := t) hp
    simp only [f_X0_countCommands_L6]
    rw [if_neg (show ¬ (60 : Int32) < nI (c + 1) from nI_nlt (a := 60) (b := c + 1) (by omega) (by omega)), if_pos h.o, e1, x_br]
    unfold prs
    by_cases h1 : (rdG t n p).1 = true
    · rw [if_pos h1, if_neg (by decide), q1.g2, ob, q1.g1, ob, if_pos h1]
      by_cases h2 : n ≤ (rdG t n p).2.1
      · rw [if_neg (nI_nlt h2 (by omega)), if_pos h2]
        exact ⟨w1, kd1, u1, k1, rfl, q1, q2⟩
      · rw [if_pos (nI_lt (by omega) (by omega)), if_pos q1.o, if_neg h2]
        obtain ⟨w2, e2, r1, r2⟩ := X0_skip q1 (Or.inl (by omega))
        by_cases h3 : t (rdG t n p).2.1 = 59
        · have hcd : (rdG t n p).2.1 < n ∧ t (rdG t n p).2.1 = 59 := ⟨by omega, h3⟩
          rw [if_pos hcd] at e2 r1
          rw [e2, x_br, if_neg (by decide), ← nI_succ, if_pos h3]
          obtain ⟨w3, kd3, u3, k3, e3, s1, s2⟩ := ih fu (c + 1) w2 _ _ _ _ (by omega) (by omega) r1 (by omega)
          exact ⟨w3, kd3, u3, k3, e3, s1, (q2.tr r2).tr s2⟩
        · have hcd : ¬ ((rdG t n p).2.1 < n ∧ t (rdG t n p).2.1 = 59) := fun hc => h3 hc.2
          rw [if_neg hcd] at e2 r1
          rw [e2, x_br, if_pos rfl, if_neg h3]
          exact ⟨w2, kd1, u1, k1, rfl, r1, q2.tr r2⟩
    · rw [if_neg h1, if_pos rfl, if_neg h1]
      exact ⟨w1, kd1, u1, k1, rfl, q1, q2⟩
theorem X0_countCommands (h : CtAt w a t n p kd u k) :
    ∃ w' kd2 u2 k2, f_X0_countCommands a w = x_ret (if (prs t n 60 0 0).1 = true then nI (prs t n 60 0 0).2.2 else -1) w' ∧ CtAt w' a t n (prs t n 60 0 0).2.1 kd2 u2 k2 ∧ Fr (ctc a) w w' := by
  have h1 := h.sO h.2.2.2.1 (show 0 ≤ 60 by omega) kd k
  obtain ⟨w', kd2, u2, k2, e, q1, q2⟩ := X0_count_L (a := a) (t := t) (n := n) 60 xfuel 0 _ 0 kd u k (by omega) (by unfold xfuel; omega) h1 (Nat.zero_le _)
  refine ⟨w', kd2, u2, k2, ?_, q1, ct_fr0.tr q2⟩
  simp only [f_X0_countCommands, h.o, if_true, f_X0_rewind]
  rw [show (0 : Int32) = nI 0 from rfl, h.p2, ob, x_br]
  exact e
/-- a chain of commands that fit -/
def chn (t : Nat → Int32) (n : Nat) : Nat → Nat → Prop
  | 0, _ => True
  | m + 1, p => p ≤ n ∧ (rdG t n p).1 = true ∧ (m = 0 ∨ ((rdG t n p).2.1 < n ∧ t (rdG t n p).2.1 = 59)) ∧ chn t n m ((rdG t n p).2.1 + 1)
theorem prs_chn {t : Nat → Int32} {n : Nat} : ∀ (f p c : Nat), p ≤ n → (prs t n f p c).1 = true → ∃ m, (prs t n f p c).2.2 = c + (m + 1) ∧ chn t n (m + 1) p
  | 0, p, c, _, h => by cases h
  | f + 1, p, c, hp, h => by
    unfold prs at h ⊢
    have hle := rdG_le (t := t) hp
    by_cases h1 : (rdG t n p).1 = true
    · rw [if_pos h1] at h ⊢
      by_cases h2 : n ≤ (rdG t n p).2.1
      · rw [if_pos h2]
        exact ⟨0, rfl, hp, h1, Or.inl rfl, trivial⟩
      · rw [if_neg h2] at h ⊢
        by_cases h3 : t (rdG t n p).2.1 = 59
        · rw [if_pos h3] at h ⊢
          obtain ⟨m, e, q⟩ := prs_chn f _ (c + 1) (by omega) h
          exact ⟨m + 1, by rw [e]; omega, hp, h1, Or.inr ⟨by omega, h3⟩, q⟩
        · rw [if_neg h3] at h
          cases h
    · rw [if_neg h1] at h
      cases h
theorem prs_le {t : Nat → Int32} {n : Nat} : ∀ (f p c : Nat), p ≤ n → (prs t n f p c).2.1 ≤ n
  | 0, p, c, h => h
  | f + 1, p, c, hp => by
    unfold prs
    have hle := rdG_le (t := t) hp
    by_cases h1 : (rdG t n p).1 = true
    · rw [if_pos h1]
      by_cases h2 : n ≤ (rdG t n p).2.1
      · rw [if_pos h2]; exact hle
      · rw [if_neg h2]
        by_cases h3 : t (rdG t n p).2.1 = 59
        · rw [if_pos h3]
          exact prs_le f _ _ (by omega)
        · rw [if_neg h3]; exact hle
    · rw [if_neg h1]; exact hle
end X0c
