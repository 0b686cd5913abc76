/-! ===== the model's changes: what is remembered ===== -/
abbrev wA (w : xW) (c k : Nat) (u : Nat → Int32) : xW := xset w (c + k) (.inl (0, moN k, .inl u))
theorem wA_wA (w : xW) (c k : Nat) (u v : Nat → Int32) : wA (wA w c k u) c k v = wA w c k v := xset_set _ _ _ _
/-- places written with what stands further on -/
theorem fo_shift (s : Nat) (u : Nat → Int32) (hs : 0 < s) : ∀ n : Nat, fo n (fun u i => upd u i (u (i + s))) u = fun k => if k < n then u (k + s) else u k
  | 0 => by funext k; simp [fo_zero]
  | n + 1 => by
    rw [fo_succ, fo_shift s u hs n]
    funext k
    unfold upd
    by_cases hk : k = n
    · subst hk
      simp only [if_true, Nat.lt_succ_self]
      rw [if_neg (by omega)]
    · have e : (k < n + 1) = (k < n) := propext ⟨fun h => by omega, fun h => by omega⟩
      simp [hk, e]
section X7c
variable {w : xW} {c : Nat} {F : Nat → Int32} {ar : Nat → Nat → Int32} {g : WL}
theorem wA_self (h : MoAt w c F ar) {k : Nat} (h1 : 1 ≤ k) (h2 : k ≤ 10) : wA w c k (ar k) = w := xset_self (h.2 k h1 h2)
theorem wA_fr {k : Nat} (h2 : k ≤ 10) (u : Nat → Int32) : Fr (moc c) w (wA w c k u) := Fr.set ⟨by omega, by omega⟩
theorem wF_fr (F' : Nat → Int32) : Fr (moc c) w (xset w c (.inr (7, moF c F'))) := Fr.set ⟨by omega, by omega⟩
theorem X7_rem_L (h : MoAt w c F ar) : ∀ (d k n : Nat) (u : Nat → Int32), k + d = 303 → d < n →
    f_X7_remembers_L7 n c (nI k) (wA w c 2 u) = x_ret () (wA w c 2 ((List.range' k d).foldl (fun u i => if true = true then upd u i (ar 1 i) else u) u)) := by
  intro d
  induction d with
  | zero =>
    intro k n u hk hn
    obtain ⟨n, rfl⟩ : ∃ m, n = m + 1 := ⟨n - 1, by omega⟩
    simp only [f_X7_remembers_L7]
    rw [if_pos (show (303 : Int32) ≤ nI k from nI_le (a := 303) (by omega) (by omega))]
    rfl
  | succ d ih =>
    intro k n u hk hn
    obtain ⟨n, rfl⟩ : ∃ m, n = m + 1 := ⟨n - 1, by omega⟩
    have h1 := h.sA 2 (by omega) (by omega) u
    have e1 : x_ild (wA w c 2 u) (c + 1) 0 (nI k) = some (ar 1 k) := h1.ld 1 (by omega) (by omega) (i := k) (by show k < 303; omega)
    have e2 := h1.st 2 (by omega) (by omega) (i := k) (by show k < 303; omega) (ar 1 k)
    simp only [f_X7_remembers_L7, h1.r2, h1.r1, ob, oe, e1, e2]
    rw [if_neg (show ¬ (303 : Int32) ≤ nI k from nI_ge (b := 303) (by omega) (by omega)), ← nI_succ k]
    show f_X7_remembers_L7 n c (nI (k + 1)) (wA (wA w c 2 u) c 2 (upd u k (ar 1 k))) = _
    rw [wA_wA, ih _ _ _ (by omega) (by omega)]
    rfl
/-- the array s, kept as it is now -/
theorem X7_remembers (h : MoAt w c F ar) : ∃ w' ar', f_X7_remembers c w = x_ret () w' ∧ MoAt w' c (upd F 0 0) ar' ∧ Fr (moc c) w w' ∧ (∀ k, k ≠ 2 → ar' k = ar k) ∧ ∀ i, i < 303 → ar' 2 i = ar 1 i := by
  have h0 := h.sF (upd F 0 0)
  have h1 := X7_rem_L h0 303 0 xfuel (ar 2) (by omega) (by unfold xfuel; omega)
  rw [wA_self h0 (by omega) (by omega), fo_R, fo_upd (fun _ => true) (ar 1) (ar 2) 303] at h1
  refine ⟨_, _, ?_, h0.sA 2 (by omega) (by omega) (fun q => if q < 303 ∧ true = true then ar 1 q else ar 2 q), (wF_fr _).tr (wA_fr (by omega) _), fun k hk => ?_, fun i hi => ?_⟩
  · unfold f_X7_remembers
    rw [h.p0, ob]
    exact h1
  · show (if k = 2 then _ else ar k) = _
    rw [if_neg hk]
  · show (if i < 303 ∧ true = true then ar 1 i else ar 2 i) = _
    rw [if_pos ⟨hi, rfl⟩]
theorem X7_done (h : MoAt w c F ar) (x : Int32) : ∃ w', f_X7_done c x w = x_ret 0 w' ∧ MoAt w' c (upd F 17 x) ar ∧ Fr (moc c) w w' := by
  refine ⟨_, ?_, h.sF (upd F 17 x), wF_fr _⟩
  simp only [f_X7_done, h.p17, ob]
theorem X7_fails (h : MoAt w c F ar) (x : Int32) : ∃ w', f_X7_fails c x w = x_ret 0 w' ∧ MoAt w' c (upd F 0 x) ar ∧ Fr (moc c) w w' := by
  refine ⟨_, ?_, h.sF (upd F 0 x), wF_fr _⟩
  simp only [f_X7_fails, h.p0, ob]
theorem ixh {kp k : Nat} : (303 : Int32) * (nI (kp + 1) - 1) + nI k = nI (303 * kp + k) := by
  rw [nI_pred, show (303 : Int32) = nI 303 from rfl, nI_mul, nI_add]
theorem X7_ch_L (h : MoAt w c F ar) {kp : Nat} (hF : F 5 = nI (kp + 1)) (hp : kp < 8) (x : Int32) : ∀ (d k n : Nat) (u : Nat → Int32), k + d = 303 → d < n →
    f_X7_changed_L55 n c x (nI k) (wA w c 4 u) = x_ret x (wA w c 4 ((List.range' k d).foldl (fun u i => upd u (303 * kp + i) (ar 2 i)) u)) := by
  intro d
  induction d with
  | zero =>
    intro k n u hk hn
    obtain ⟨n, rfl⟩ : ∃ m, n = m + 1 := ⟨n - 1, by omega⟩
    simp only [f_X7_changed_L55]
    rw [if_pos (show (303 : Int32) ≤ nI k from nI_le (a := 303) (by omega) (by omega))]
    rfl
  | succ d ih =>
    intro k n u hk hn
    obtain ⟨n, rfl⟩ : ∃ m, n = m + 1 := ⟨n - 1, by omega⟩
    have h1 := h.sA 4 (by omega) (by omega) u
    have e1 : x_ild (wA w c 4 u) (c + 2) 0 (nI k) = some (ar 2 k) := h1.ld 2 (by omega) (by omega) (i := k) (by show k < 303; omega)
    have e2 := h1.st 4 (by omega) (by omega) (i := 303 * kp + k) (by show _ < 2424; omega) (ar 2 k)
    simp only [f_X7_changed_L55, h1.r4, h1.g5, h1.r2, ob, oe, e1, hF, ixh, e2]
    rw [if_neg (show ¬ (303 : Int32) ≤ nI k from nI_ge (b := 303) (by omega) (by omega)), ← nI_succ k]
    show f_X7_changed_L55 n c x (nI (k + 1)) (wA (wA w c 4 u) c 4 (upd u (303 * kp + k) (ar 2 k))) = _
    rw [wA_wA, ih _ _ _ (by omega) (by omega)]
    rfl
theorem X7_sh_L (h : MoAt w c F ar) (x : Int32) : ∀ (d k n : Nat) (u : Nat → Int32), k + d = 2121 → d < n →
    f_X7_changed_L11 n c x (nI k) (wA w c 4 u) = f_X7_changed_L55 xfuel c x 0 (wA w c 4 ((List.range' k d).foldl (fun u i => upd u i (u (i + 303))) u)) := by
  intro d
  induction d with
  | zero =>
    intro k n u hk hn
    obtain ⟨n, rfl⟩ : ∃ m, n = m + 1 := ⟨n - 1, by omega⟩
    simp only [f_X7_changed_L11]
    rw [if_pos (show (2121 : Int32) ≤ nI k from nI_le (a := 2121) (by omega) (by omega))]
    rfl
  | succ d ih =>
    intro k n u hk hn
    obtain ⟨n, rfl⟩ : ∃ m, n = m + 1 := ⟨n - 1, by omega⟩
    have h1 := h.sA 4 (by omega) (by omega) u
    have e1 : x_ild (wA w c 4 u) (c + 4) 0 (nI (k + 303)) = some (u (k + 303)) := h1.ld 4 (by omega) (by omega) (i := k + 303) (by show _ < 2424; omega)
    have e2 := h1.st 4 (by omega) (by omega) (i := k) (by show _ < 2424; omega) (u (k + 303))
    simp only [f_X7_changed_L11, h1.r4, ob, oe, show nI k + 303 = nI (k + 303) from nI_add k 303, e1, e2]
    rw [if_neg (show ¬ (2121 : Int32) ≤ nI k from nI_ge (b := 2121) (by omega) (by omega)), ← nI_succ k]
    show f_X7_changed_L11 n c x (nI (k + 1)) (wA (wA w c 4 u) c 4 (upd u k (u (k + 303)))) = _
    rw [wA_wA, ih _ _ _ (by omega) (by omega)]
    rfl
/-- a block written at its place -/
theorem fo_blk (p : Nat) (v u : Nat → Int32) : ∀ n : Nat, fo n (fun u i => upd u (p + i) (v i)) u = fun k => if p ≤ k ∧ k < p + n then v (k - p) else u k
  | 0 => by
    funext k
    rw [fo_zero, if_neg (by omega)]
  | n + 1 => by
    rw [fo_succ, fo_blk p v u n]
    funext k
    show (if k = p + n then v n else if p ≤ k ∧ k < p + n then v (k - p) else u k) = if p ≤ k ∧ k < p + (n + 1) then v (k - p) else u k
    by_cases hk : k = p + n
    · subst hk
      rw [if_pos rfl, if_pos (by omega), Nat.add_sub_cancel_left]
    · rw [if_neg hk]
      by_cases hb : p ≤ k ∧ k < p + n
      · rw [if_pos hb, if_pos (by omega)]
      · rw [if_neg hb, if_neg (by omega)]
theorem X7_changed (h : MoAt w c F ar) {kp : Nat} (hF : F 5 = nI kp) (hp : kp ≤ 8) (x : Int32) :
    ∃ w' F' ar', f_X7_changed c x w = x_ret x w' ∧ MoAt w' c F' ar' ∧ Fr (moc c) w w' ∧ (∀ k, k ≠ 5 → F' k = F k) ∧ F' 5 = nI (szUp kp) ∧ (∀ k, k ≠ 4 → ar' k = ar k) ∧ (∀ i, i < 303 → ar' 4 (303 * (szUp kp - 1) + i) = ar 2 i) ∧
      ∀ j i, j < szUp kp - 1 → i < 303 → ar' 4 (303 * j + i) = if kp = 8 then ar 4 (303 * (j + 1) + i) else ar 4 (303 * j + i) := by
  by_cases h8 : kp = 8
  · subst h8
    have e0 : szUp 8 = 8 := rfl
    generalize hu : (List.range' 0 2121).foldl (fun u i => upd u i (u (i + 303))) (ar 4) = u
    have hu' : ∀ k, u k = if k < 2121 then ar 4 (k + 303) else ar 4 k := fun k => by
      rw [← hu, fo_R, fo_shift 303 (ar 4) (by omega)]
    have h1 := X7_sh_L h x 2121 0 xfuel (ar 4) (by omega) (by show 2121 < 5000; omega)
    rw [wA_self h (by omega) (by omega), hu, nI_0] at h1
    have h2 := X7_ch_L h (kp := 7) hF (by omega) x 303 0 xfuel u (by omega) (by unfold xfuel; omega)
    rw [fo_R, fo_blk (303 * 7) (ar 2) u 303, nI_0] at h2
    refine ⟨_, F, _, ?_, h.sA 4 (by omega) (by omega) (fun k => if 303 * 7 ≤ k ∧ k < 303 * 7 + 303 then ar 2 (k - 303 * 7) else u k), wA_fr (by omega) _, fun _ _ => rfl, hF, fun k hk => ?_, fun i hi => ?_, fun j i hj hi => ?_⟩
    · unfold f_X7_changed
      rw [h.g5, ob, hF, if_pos (show nI 8 = (8 : Int32) from rfl)]
      exact h1.trans h2
    · show (if k = 4 then _ else ar k) = _
      rw [if_neg hk]
    · rw [e0]
      show (if 303 * 7 ≤ 303 * (8 - 1) + i ∧ 303 * (8 - 1) + i < 303 * 7 + 303 then ar 2 (303 * (8 - 1) + i - 303 * 7) else u (303 * (8 - 1) + i)) = _
      rw [if_pos (by omega), show 303 * (8 - 1) + i - 303 * 7 = i by omega]
    · rw [e0] at hj
      show (if 303 * 7 ≤ 303 * j + i ∧ 303 * j + i < 303 * 7 + 303 then ar 2 (303 * j + i - 303 * 7) else u (303 * j + i)) = _
      rw [if_neg (by omega), hu', if_pos (by omega), if_pos rfl, show 303 * j + i + 303 = 303 * (j + 1) + i by omega]
  · have e0 : szUp kp = kp + 1 := by unfold szUp; rw [if_pos (by omega)]
    have h0 := h.sF (upd F 5 (nI (kp + 1)))
    have h2 := X7_ch_L h0 (kp := kp) rfl (by omega) x 303 0 xfuel (ar 4) (by omega) (by unfold xfuel; omega)
    rw [wA_self h0 (by omega) (by omega), fo_R, fo_blk (303 * kp) (ar 2) (ar 4) 303, nI_0] at h2
    refine ⟨_, upd F 5 (nI (kp + 1)), _, ?_, h0.sA 4 (by omega) (by omega) (fun k => if 303 * kp ≤ k ∧ k < 303 * kp + 303 then ar 2 (k - 303 * kp) else ar 4 k), (wF_fr _).tr (wA_fr (by omega) _), fun k hk => by unfold upd; rw [if_neg hk], by rw [e0]; rfl, fun k hk => ?_, fun i hi => ?_, fun j i hj hi => ?_⟩
    · unfold f_X7_changed
      rw [h.g5, ob, ob, hF, if_neg (fun hc : nI kp = (8 : Int32) => h8 ((nI_eq (b := 8) (by omega) (by omega)).mp hc)), ← nI_succ, h.p5]
      exact h2
    · show (if k = 4 then _ else ar k) = _
      rw [if_neg hk]
    · rw [e0]
      show (if 303 * kp ≤ 303 * (kp + 1 - 1) + i ∧ 303 * (kp + 1 - 1) + i < 303 * kp + 303 then ar 2 (303 * (kp + 1 - 1) + i - 303 * kp) else ar 4 (303 * (kp + 1 - 1) + i)) = _
      rw [show 303 * (kp + 1 - 1) + i = 303 * kp + i by omega, if_pos (by omega), show 303 * kp + i - 303 * kp = i by omega]
    · rw [e0] at hj
      show (if 303 * kp ≤ 303 * j + i ∧ 303 * j + i < 303 * kp + 303 then ar 2 (303 * j + i - 303 * kp) else ar 4 (303 * j + i)) = _
      have hjk : 303 * j + i < 303 * kp := by
        have : j + 1 ≤ kp := by omega
        have := Nat.mul_le_mul_left 303 this
        omega
      rw [if_neg (by omega), if_neg h8]
end X7c
