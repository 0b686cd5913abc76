/-! ===== texts: the forms, one command read ===== -/
def fm : Nat → List Int32 := fun j => match j with
  | 0 => [108, 97, 121, 101, 114, 32, 42]
  | 1 => [112, 97, 105, 110, 116, 32, 35, 32, 35, 35, 35, 35, 32, 35, 43]
  | 2 => [101, 114, 97, 115, 101, 32, 35, 32, 35, 35, 32, 35]
  | 3 => [104, 105, 100, 101, 32, 35]
  | 4 => [115, 104, 111, 119, 32, 35]
  | 5 => [109, 101, 114, 103, 101, 32, 35]
  | 6 => [109, 111, 118, 101, 32, 35, 32, 35]
  | _ => [99, 97, 115, 116, 32, 35, 32, 35, 43]
theorem fm_ch : ∀ j, j < 8 → xCh (18 + j) = fm j := by decide +kernel
theorem fm_ok : ∀ j, j < 8 → okF (fm j) 0 = true := by decide +kernel
theorem fm_ln : ∀ j, j < 8 → (fm j).length < 100 := by decide +kernel
theorem X0_formOf {j : Nat} (hj : j < 8) (w : xW) : f_X0_formOf (nI j) w = x_ret (18 + j) w := by
  have h : j = 0 ∨ j = 1 ∨ j = 2 ∨ j = 3 ∨ j = 4 ∨ j = 5 ∨ j = 6 ∨ j = 7 := by omega
  unfold f_X0_formOf
  rcases h with rfl | rfl | rfl | rfl | rfl | rfl | rfl | rfl
  · rw [if_pos (by decide)]
  · rw [if_neg (by decide), if_pos (by decide)]
  · rw [if_neg (by decide), if_neg (by decide), if_pos (by decide)]
  · rw [if_neg (by decide), if_neg (by decide), if_neg (by decide), if_pos (by decide)]
  · rw [if_neg (by decide), if_neg (by decide), if_neg (by decide), if_neg (by decide), if_pos (by decide)]
  · rw [if_neg (by decide), if_neg (by decide), if_neg (by decide), if_neg (by decide), if_neg (by decide), if_pos (by decide)]
  · rw [if_neg (by decide), if_neg (by decide), if_neg (by decide), if_neg (by decide), if_neg (by decide), if_neg (by decide), if_pos (by decide)]
  · rw [if_neg (by decide), if_neg (by decide), if_neg (by decide), if_neg (by decide), if_neg (by decide), if_neg (by decide), if_neg (by decide)]
/-- a form from an empty list of numbers -/
def mtc (t : Nat → Int32) (n : Nat) (l : List Int32) (p : Nat) : Bool × Nat × (Nat → Int32) × Nat := mt t n l p (fun _ => 0) 0
section X0b
variable {w : xW} {a n p k : Nat} {kd : Int32} {t u : Nat → Int32}
theorem X0_readForm (h : CtAt w a t n p kd u k) {j : Nat} (hj : j < 8) :
    ∃ w' u', f_X0_readForm a (18 + j) w = x_ret (if (mtc t n (fm j) p).1 = true then 1 else 0) w' ∧ CtAt w' a t n (mtc t n (fm j) p).2.1 kd u' (mtc t n (fm j) p).2.2.2 ∧ (∀ i, i < (mtc t n (fm j) p).2.2.2 → u' i = (mtc t n (fm j) p).2.2.1 i) ∧ Fr (ctc a) w w' := by
  have h1 := h.sO h.2.2.2.1 h.2.2.2.2 kd 0
  obtain ⟨w', e, q1, q2⟩ := X0_form_L (show 18 + j < 43 by omega) (fm j) 0 xfuel _ p u 0 (by rw [List.drop_zero]; exact fm_ch j hj) (by omega) (by have := fm_ln j hj; unfold xfuel; omega) (fm_ok j hj) h1
  obtain ⟨a1, a2, a3, a4⟩ := mt_agree t n (fm j) p u (fun _ => 0) 0 (fun i hi => absurd hi (Nat.not_lt_zero i))
  have b1 : (mt t n (fm j) p u 0).1 = (mtc t n (fm j) p).1 := a1
  have b2 : (mt t n (fm j) p u 0).2.1 = (mtc t n (fm j) p).2.1 := a2
  have b3 : (mt t n (fm j) p u 0).2.2.2 = (mtc t n (fm j) p).2.2.2 := a3
  rw [b2, b3] at q1
  rw [b1, nI_0] at e
  refine ⟨w', (mt t n (fm j) p u 0).2.2.1, ?_, q1, fun i hi => a4 i (by rw [b3]; exact hi), ct_fr0.tr q2⟩
  unfold f_X0_readForm
  rw [show (0 : Int32) = nI 0 from rfl, h.p5, ob]
  exact e
/-- the furthest end of the first k forms -/
def fzF (t : Nat → Int32) (n p : Nat) : Nat → Nat
  | 0 => p
  | k + 1 => if fzF t n p k < (mtc t n (fm k) p).2.1 then (mtc t n (fm k) p).2.1 else fzF t n p k
theorem fzF_le {t : Nat → Int32} {n p M : Nat} (hp : p ≤ M) : ∀ k : Nat, (∀ j, j < k → (mtc t n (fm j) p).2.1 ≤ M) → fzF t n p k ≤ M
  | 0, _ => hp
  | k + 1, h => by
    have h1 := fzF_le hp k (fun j hj => h j (by omega))
    have h2 := h k (by omega)
    unfold fzF
    split <;> omega
theorem fzF_ge {t : Nat → Int32} {n p : Nat} : ∀ k : Nat, p ≤ fzF t n p k ∧ ∀ j, j < k → (mtc t n (fm j) p).2.1 ≤ fzF t n p k
  | 0 => ⟨Nat.le_refl _, fun j hj => absurd hj (Nat.not_lt_zero j)⟩
  | k + 1 => by
    obtain ⟨h1, h2⟩ := fzF_ge (t := t) (n := n) (p := p) k
    have e : fzF t n p (k + 1) = if fzF t n p k < (mtc t n (fm k) p).2.1 then (mtc t n (fm k) p).2.1 else fzF t n p k := rfl
    rw [e]
    refine ⟨by split <;> omega, fun j hj => ?_⟩
    by_cases hjk : j = k
    · subst hjk
      split <;> omega
    · have := h2 j (by omega)
      split <;> omega
theorem X0_cmd_L (hp : p ≤ n) : ∀ (d k fu : Nat) (w : xW) (p1 : Nat) (kd1 : Int32) (u1 : Nat → Int32) (k1 : Nat), k + d = 8 → d < fu → CtAt w a t n p1 kd1 u1 k1 →
    ∃ w' r p2 kd2 u2 k2, f_X0_readCommand_L9 fu a (nI p) (nI (fzF t n p k)) (nI k) w = x_ret r w' ∧ CtAt w' a t n p2 kd2 u2 k2 ∧ Fr (ctc a) w w' ∧
      ((r = 0 ∧ p2 = fzF t n p 8 ∧ ∀ j, k ≤ j → j < 8 → (mtc t n (fm j) p).1 = false) ∨
       ∃ j, j < 8 ∧ (mtc t n (fm j) p).1 = true ∧ r = 1 ∧ p2 = (mtc t n (fm j) p).2.1 ∧ kd2 = nI j ∧ ∀ i, i < nmb (fm j) → u2 i = (mtc t n (fm j) p).2.2.1 i) := by
  intro d
  induction d with
  | zero =>
    intro k fu w p1 kd1 u1 k1 hk hfu h
    obtain ⟨fu, rfl⟩ : ∃ m, fu = m + 1 := ⟨fu - 1, by omega⟩
    obtain rfl : k = 8 := by omega
    have hn := h.2.2.2.1
    have hf : fzF t n p 8 ≤ n := fzF_le hp 8 (fun j _ => mt_le t n (fm j) p _ _ hp)
    have h1 := h.sO hn (show fzF t n p 8 ≤ 60 by omega) kd1 k1
    refine ⟨_, 0, fzF t n p 8, kd1, u1, k1, ?_, h1, ct_fr0, Or.inl ⟨rfl, rfl, fun j h1 h2 => absurd h1 (by omega)⟩⟩
    simp only [f_X0_readCommand_L9]
    rw [if_pos (show (8 : Int32) ≤ nI 8 from nI_le (a := 8) (by omega) (by omega)), h.p2, ob]
  | succ d ih =>
    intro k fu w p1 kd1 u1 k1 hk hfu h
    obtain ⟨fu, rfl⟩ : ∃ m, fu = m + 1 := ⟨fu - 1, by omega⟩
    have hn := h.2.2.2.1
    have hf : fzF t n p k ≤ n := fzF_le hp k (fun j _ => mt_le t n (fm j) p _ _ hp)
    have hm : (mtc t n (fm k) p).2.1 ≤ n := mt_le t n (fm k) p _ _ hp
    have h1 := h.sO hn (show p ≤ 60 by omega) kd1 k1
    have h2 := h1.sO hn (show p ≤ 60 by omega) (nI k) k1
    obtain ⟨w3, u3, e3, q1, q2, q3⟩ := X0_readForm h2 (show k < 8 by omega)
    simp only [f_X0_readCommand_L9]
    rw [if_neg (show ¬ (8 : Int32) ≤ nI k from nI_ge (b := 8) (by omega) (by omega)), h.p2, ob, h1.p3, ob, X0_formOf (show k < 8 by omega), x_br, if_pos h2.o, e3, x_br]
    cases hok : (mtc t n (fm k) p).1 with
    | true =>
      rw [if_pos rfl, if_neg (by decide)]
      refine ⟨w3, 1, _, nI k, u3, _, rfl, q1, (ct_fr0.tr ct_fr0).tr q3, Or.inr ⟨k, by omega, hok, rfl, rfl, rfl, fun i hi => q2 i ?_⟩⟩
      have h9 := mt_k t n (fm k) p (fun _ => 0) 0 hok
      rw [Nat.zero_add] at h9
      show i < (mt t n (fm k) p (fun _ => 0) 0).2.2.2
      rw [h9]
      exact hi
    | false =>
      rw [if_pos (show (if false = true then (1 : Int32) else 0) = 0 by decide), q1.g2, ob, J9_max, x_br]
      have e4 : (if nI (fzF t n p k) < nI (mtc t n (fm k) p).2.1 then nI (mtc t n (fm k) p).2.1 else nI (fzF t n p k)) = nI (fzF t n p (k + 1)) := by
        show _ = nI (if fzF t n p k < (mtc t n (fm k) p).2.1 then (mtc t n (fm k) p).2.1 else fzF t n p k)
        by_cases hc : fzF t n p k < (mtc t n (fm k) p).2.1
        · rw [if_pos hc, if_pos (nI_lt hc (by omega))]
        · rw [if_neg hc, if_neg (nI_nlt (by omega) (by omega))]
      rw [e4, ← nI_succ k]
      obtain ⟨w', r, p2, kd2, u2, k2, e5, r1, r2, r3⟩ := ih (k + 1) fu w3 _ _ u3 _ (by omega) (by omega) q1
      refine ⟨w', r, p2, kd2, u2, k2, e5, r1, ((ct_fr0.tr ct_fr0).tr q3).tr r2, ?_⟩
      rcases r3 with ⟨s1, s2, s3⟩ | s3
      · refine Or.inl ⟨s1, s2, fun j hj hj8 => ?_⟩
        by_cases hjk : j = k
        · subst hjk; exact hok
        · exact s3 j (by omega) hj8
      · exact Or.inr s3
end X0b
/-! which form a text begins -/
def hd : Nat → Int32 := fun j => match j with
  | 0 => 108
  | 1 => 112
  | 2 => 101
  | 3 => 104
  | 4 => 115
  | 5 => 109
  | 6 => 109
  | _ => 99
def sel (t : Nat → Int32) (n p : Nat) : Option Nat := if p < n then (if t p = 99 then some 7 else if t p = 101 then some 2 else if t p = 104 then some 3 else if t p = 108 then some 0 else if t p = 109 then (if p + 1 < n ∧ t (p + 1) = 111 then some 6 else some 5) else if t p = 112 then some 1 else if t p = 115 then some 4 else none) else none
theorem nxt_pl {t : Nat → Int32} {n p : Nat} {s : Int32} (h : s ≠ 42 ∧ s ≠ 35 ∧ s ≠ 43) : nxtB t n s p = true ↔ p < n ∧ t p = s := by
  unfold nxtB fitB
  rw [if_neg h.1, if_neg (fun hc => hc.elim h.2.1 h.2.2)]
  simp
theorem hd_pl : ∀ j, j < 8 → hd j ≠ 42 ∧ hd j ≠ 35 ∧ hd j ≠ 43 := by decide +kernel
theorem fm_hd : ∀ j, j < 8 → fm j = hd j :: (fm j).tail := by decide +kernel
theorem mtc_no {t : Nat → Int32} {n p j : Nat} (hj : j < 8) (h : ¬ (p < n ∧ t p = hd j)) : (mtc t n (fm j) p).1 = false ∧ (mtc t n (fm j) p).2.1 = p := by
  unfold mtc
  rw [fm_hd j hj, mt_cons, if_neg (fun hc => h ((nxt_pl (hd_pl j hj)).mp hc)), if_neg (hd_pl j hj).2.2]
  exact ⟨rfl, rfl⟩
theorem sel_some {t : Nat → Int32} {n p j : Nat} (hj : j < 8) (hp : p < n) (ht : t p = hd j) (h5 : j ≠ 5) (h6 : j ≠ 6) : sel t n p = some j := by
  have h : j = 0 ∨ j = 1 ∨ j = 2 ∨ j = 3 ∨ j = 4 ∨ j = 7 := by omega
  unfold sel
  rw [if_pos hp, ht]
  rcases h with rfl | rfl | rfl | rfl | rfl | rfl <;> simp [hd]
theorem sel_lt {t : Nat → Int32} {n p j : Nat} (h : sel t n p = some j) : j < 8 ∧ p < n ∧ t p = hd j := by
  unfold sel at h
  by_cases hp : p < n
  · rw [if_pos hp] at h
    repeat' split at h
    all_goals first
      | (cases h; rename_i h9 _; exact ⟨by omega, hp, h9⟩)
      | (cases h; rename_i h9; exact ⟨by omega, hp, h9⟩)
      | cases h
  · rw [if_neg hp] at h
    cases h
