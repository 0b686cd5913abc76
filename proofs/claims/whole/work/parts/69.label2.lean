/-! ===== areas: what the model counts of its labels ===== -/
section X7M
variable {w : xW} {c : Nat} {F : Nat → Int32} {ar : Nat → Nat → Int32} {g : WL} {lab : Nat → Nat}
theorem X7_num_L (h : MoAt w c F ar) (hl : ∀ x, x < 48 → ar 9 x = nI (lab x)) (hb : ∀ x, x < 48 → lab x < 48) : ∀ (d k n acc : Nat), k + d = 48 → d < n → f_X7_areaCount_L13 n c (nI acc) (nI k) w = x_ret (nI (acc + (List.range' k d).countP fun x => lab x == x)) w := by
  intro d
  induction d with
  | zero =>
    intro k n acc hk hn
    obtain ⟨n, rfl⟩ : ∃ m, n = m + 1 := ⟨n - 1, by omega⟩
    simp only [f_X7_areaCount_L13]
    rw [if_pos (show (48 : Int32) ≤ nI k from nI_le (a := 48) (by omega) (by omega))]
    rfl
  | succ d ih =>
    intro k n acc hk hn
    obtain ⟨n, rfl⟩ : ∃ m, n = m + 1 := ⟨n - 1, by omega⟩
    have e1 := h.ld 9 (by omega) (by omega) (i := k) (by show k < 48; omega)
    have hk9 := hb k (by omega)
    rw [hl k (by omega)] at e1
    simp only [f_X7_areaCount_L13, h.r11, ob, oe, e1, Int32.add_zero]
    rw [if_neg (show ¬ (48 : Int32) ≤ nI k from nI_ge (b := 48) (by omega) (by omega)), ← nI_succ k, List.range'_succ]
    by_cases hc : lab k = k
    · rw [if_pos (by rw [hc]), ← nI_succ, ih _ _ _ (by omega) (by omega), List.countP_cons_of_pos (by simp [hc])]
      congr 2
      omega
    · rw [if_neg (fun h9 : nI (lab k) = nI k => hc ((nI_eq (by omega) (by omega)).mp h9)), ih _ _ _ (by omega) (by omega), List.countP_cons_of_neg (by simp [hc])]
theorem X7_siz_L (h : MoAt w c F ar) (hl : ∀ x, x < 48 → ar 9 x = nI (lab x)) (hb : ∀ x, x < 48 → lab x < 48) {s : Nat} (hs : s < 48) : ∀ (d k n acc : Nat), k + d = 48 → d < n → f_X7_labelled_L4 n c (nI s) (nI acc) (nI k) w = x_ret (nI (acc + (List.range' k d).countP fun x => lab x == lab s)) w := by
  intro d
  induction d with
  | zero =>
    intro k n acc hk hn
    obtain ⟨n, rfl⟩ : ∃ m, n = m + 1 := ⟨n - 1, by omega⟩
    simp only [f_X7_labelled_L4]
    rw [if_pos (show (48 : Int32) ≤ nI k from nI_le (a := 48) (by omega) (by omega))]
    rfl
  | succ d ih =>
    intro k n acc hk hn
    obtain ⟨n, rfl⟩ : ∃ m, n = m + 1 := ⟨n - 1, by omega⟩
    have e1 := h.ld 9 (by omega) (by omega) (i := k) (by show k < 48; omega)
    have e2 := h.ld 9 (by omega) (by omega) (i := s) hs
    have hk9 := hb k (by omega)
    have hs9 := hb s hs
    rw [hl k (by omega)] at e1
    rw [hl s hs] at e2
    simp only [f_X7_labelled_L4, h.r11, ob, oe, e1, e2, Int32.add_zero]
    rw [if_neg (show ¬ (48 : Int32) ≤ nI k from nI_ge (b := 48) (by omega) (by omega)), ← nI_succ k, List.range'_succ]
    by_cases hc : lab k = lab s
    · rw [if_pos (by rw [hc]), ← nI_succ, ih _ _ _ (by omega) (by omega), List.countP_cons_of_pos (by simp [hc])]
      congr 2
      omega
    · rw [if_neg (fun h9 : nI (lab k) = nI (lab s) => hc ((nI_eq (by omega) (by omega)).mp h9)), ih _ _ _ (by omega) (by omega), List.countP_cons_of_neg (by simp [hc])]
theorem X7_labelled (h : MoAt w c F ar) (hl : ∀ x, x < 48 → ar 9 x = nI (lab x)) (hb : ∀ x, x < 48 → lab x < 48) {s : Nat} (hs : s < 48) : f_X7_labelled c (nI s) w = x_ret (nI (sizA lab s)) w := by
  have h1 := X7_siz_L h hl hb hs 48 0 xfuel 0 (by omega) (by unfold xfuel; omega)
  rw [Nat.zero_add, cntR] at h1
  exact h1
theorem X7_lrg_L (h : MoAt w c F ar) (hl : ∀ x, x < 48 → ar 9 x = nI (lab x)) (hb : ∀ x, x < 48 → lab x < 48) : ∀ (d k n M : Nat), k + d = 48 → d < n → M ≤ 48 → f_X7_largestArea_L13 n c (nI M) (nI k) w = x_ret (nI ((List.range' k d).foldl (mxM lab) M)) w := by
  intro d
  induction d with
  | zero =>
    intro k n M hk hn hM
    obtain ⟨n, rfl⟩ : ∃ m, n = m + 1 := ⟨n - 1, by omega⟩
    simp only [f_X7_largestArea_L13]
    rw [if_pos (show (48 : Int32) ≤ nI k from nI_le (a := 48) (by omega) (by omega))]
    rfl
  | succ d ih =>
    intro k n M hk hn hM
    obtain ⟨n, rfl⟩ : ∃ m, n = m + 1 := ⟨n - 1, by omega⟩
    have e1 := X7_labelled h hl hb (show k < 48 by omega)
    have hs := sizA_le (lab := lab) k
    simp only [f_X7_largestArea_L13, h.o, if_true, e1, x_br]
    rw [if_neg (show ¬ (48 : Int32) ≤ nI k from nI_ge (b := 48) (by omega) (by omega)), ← nI_succ k, show List.range' k (d + 1) = k :: List.range' (k + 1) d from rfl, List.foldl_cons]
    by_cases hc : sizA lab k ≤ M
    · rw [if_pos (nI_le hc (by omega)), ih _ _ _ (by omega) (by omega) hM, show mxM lab M k = M by simp [mxM, hc]]
    · rw [if_neg (nI_ge (by omega) (by omega)), ih _ _ _ (by omega) (by omega) hs, show mxM lab M k = sizA lab k by simp [mxM, hc]]
/-- the model's own calls: an answer b, the model's new cells, only fields 0 and 14 to 21 and no array but 7 to 10 changed -/
theorem X7_num (h : MoAt w c F ar) (r : RelS g (ar 1)) (L : Lab (seeG g) lab) : ∃ w' ar', f_X7_areaCount c w = x_ret (nI (numA lab)) w' ∧ MoAt w' c (upd F 0 0) ar' ∧ Fr (moc c) w w' ∧ ∀ k, k ≠ 9 → ar' k = ar k := by
  have h0 := h.sF (upd F 0 0)
  obtain ⟨u, lb, e, a1, a2⟩ := X7_labels h0 r
  have h1 := h0.sA 9 (by omega) (by omega) u
  have h2 := X7_num_L (lab := lab) h1 (fun x hx => a1.lab a2 L x hx) (fun x hx => L.lt hx) 48 0 xfuel 0 (by omega) (by unfold xfuel; omega)
  rw [Nat.zero_add, cntR, nI_0] at h2
  refine ⟨_, _, ?_, h1, (wF_fr _).tr (wA_fr (by omega) _), fun k hk => if_neg hk⟩
  unfold f_X7_areaCount
  rw [h.p0, ob, if_pos h0.o, e, x_br]
  exact h2
theorem X7_largest (h : MoAt w c F ar) (r : RelS g (ar 1)) (L : Lab (seeG g) lab) : ∃ w' ar', f_X7_largestArea c w = x_ret (nI (fo 48 (mxM lab) 0)) w' ∧ MoAt w' c (upd F 0 0) ar' ∧ Fr (moc c) w w' ∧ ∀ k, k ≠ 9 → ar' k = ar k := by
  have h0 := h.sF (upd F 0 0)
  obtain ⟨u, lb, e, a1, a2⟩ := X7_labels h0 r
  have h1 := h0.sA 9 (by omega) (by omega) u
  have h2 := X7_lrg_L (lab := lab) h1 (fun x hx => a1.lab a2 L x hx) (fun x hx => L.lt hx) 48 0 xfuel 0 (by omega) (by unfold xfuel; omega) (by omega)
  rw [fo_R, nI_0] at h2
  refine ⟨_, _, ?_, h1, (wF_fr _).tr (wA_fr (by omega) _), fun k hk => if_neg hk⟩
  unfold f_X7_largestArea
  rw [h.p0, ob, if_pos h0.o, e, x_br]
  exact h2
end X7M
