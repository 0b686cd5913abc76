/-! ===== texts: what a form takes ===== -/
/-- the command text's cells: text t of n characters, place p, kind kd, numbers u, k of them -/
def CtAt (w : xW) (a : Nat) (t : Nat → Int32) (n p : Nat) (kd : Int32) (u : Nat → Int32) (k : Nat) : Prop := w.2 a = some (.inr (0, [.ref (a + 1), .int (nI n), .int (nI p), .int kd, .ref (a + 2), .int (nI k)])) ∧ w.2 (a + 1) = some (.inl (1, 60, .inl t)) ∧ w.2 (a + 2) = some (.inl (0, 6, .inl u)) ∧ n ≤ 60 ∧ p ≤ 60
def ctc (a : Nat) : Nat → Prop := fun q => a ≤ q ∧ q < a + 3
def digB (x : Int32) : Bool := decide (¬ x < 48 ∧ ¬ 57 < x)
/-- does the character fit the sign -/
def fitB (s x : Int32) : Bool := if s = 42 then isM x else if s = 35 ∨ s = 43 then digB x else decide (x = s)
def nxtB (t : Nat → Int32) (n : Nat) (s : Int32) (p : Nat) : Bool := decide (p < n) && fitB s (t p)
/-- the numbers behind a sign taken -/
def tkU (s x : Int32) (u : Nat → Int32) (k : Nat) : Nat → Int32 := if s = 42 then upd u k x else if s = 35 then upd u k (x - 48) else if s = 43 then upd u (k - 1) (u (k - 1) * 10 + x - 48) else u
def tkK (s : Int32) (k : Nat) : Nat := if s = 42 ∨ s = 35 then k + 1 else k
/-- a form against the text: whether it fits, where it ends, its numbers -/
def mt (t : Nat → Int32) (n : Nat) : List Int32 → Nat → (Nat → Int32) → Nat → Bool × Nat × (Nat → Int32) × Nat
  | [], p, u, k => (true, p, u, k)
  | s :: r, p, u, k => if nxtB t n s p = true then mt t n r (p + 1) (tkU s (t p) u k) (tkK s k) else if s = 43 then mt t n r p u k else (false, p, u, k)
theorem mt_cons (t : Nat → Int32) (n : Nat) (s : Int32) (r : List Int32) (p : Nat) (u : Nat → Int32) (k : Nat) : mt t n (s :: r) p u k = if nxtB t n s p = true then mt t n r (p + 1) (tkU s (t p) u k) (tkK s k) else if s = 43 then mt t n r p u k else (false, p, u, k) := rfl
theorem mt_app (t : Nat → Int32) (n : Nat) (b : List Int32) : ∀ (a : List Int32) (p : Nat) (u : Nat → Int32) (k : Nat), mt t n (a ++ b) p u k = if (mt t n a p u k).1 = true then mt t n b (mt t n a p u k).2.1 (mt t n a p u k).2.2.1 (mt t n a p u k).2.2.2 else mt t n a p u k
  | [], p, u, k => by
    show mt t n b p u k = if true = true then mt t n b p u k else _
    rw [if_pos rfl]
  | s :: r, p, u, k => by
    show mt t n (s :: (r ++ b)) p u k = _
    rw [mt_cons, mt_cons]
    by_cases h1 : nxtB t n s p = true
    · rw [if_pos h1, if_pos h1]
      exact mt_app t n b r _ _ _
    · rw [if_neg h1, if_neg h1]
      by_cases h2 : s = 43
      · rw [if_pos h2, if_pos h2]
        exact mt_app t n b r _ _ _
      · rw [if_neg h2, if_neg h2]
        exact (if_neg (show ¬ false = true by decide)).symm
theorem mt_ge (t : Nat → Int32) (n : Nat) : ∀ (a : List Int32) (p : Nat) (u : Nat → Int32) (k : Nat), p ≤ (mt t n a p u k).2.1
  | [], p, u, k => Nat.le_refl _
  | s :: r, p, u, k => by
    rw [mt_cons]
    by_cases h1 : nxtB t n s p = true
    · rw [if_pos h1]
      have := mt_ge t n r (p + 1) (tkU s (t p) u k) (tkK s k)
      omega
    · rw [if_neg h1]
      by_cases h2 : s = 43
      · rw [if_pos h2]
        exact mt_ge t n r p u k
      · rw [if_neg h2]
        exact Nat.le_refl _
theorem mt_le (t : Nat → Int32) (n : Nat) : ∀ (a : List Int32) (p : Nat) (u : Nat → Int32) (k : Nat), p ≤ n → (mt t n a p u k).2.1 ≤ n
  | [], p, u, k, h => h
  | s :: r, p, u, k, h => by
    rw [mt_cons]
    by_cases h1 : nxtB t n s p = true
    · rw [if_pos h1]
      have h3 : p < n := by
        unfold nxtB at h1
        simp at h1
        exact h1.1
      exact mt_le t n r (p + 1) _ _ h3
    · rw [if_neg h1]
      by_cases h2 : s = 43
      · rw [if_pos h2]
        exact mt_le t n r p u k h
      · rw [if_neg h2]
        exact h
/-- numbers a form has -/
def nmb : List Int32 → Nat
  | [] => 0
  | s :: r => (if s = 42 ∨ s = 35 then 1 else 0) + nmb r
theorem nmb_cons (s : Int32) (r : List Int32) : nmb (s :: r) = (if s = 42 ∨ s = 35 then 1 else 0) + nmb r := rfl
theorem mt_k (t : Nat → Int32) (n : Nat) : ∀ (a : List Int32) (p : Nat) (u : Nat → Int32) (k : Nat), (mt t n a p u k).1 = true → (mt t n a p u k).2.2.2 = k + nmb a
  | [], p, u, k, _ => rfl
  | s :: r, p, u, k, h => by
    rw [mt_cons] at h ⊢
    by_cases h1 : nxtB t n s p = true
    · rw [if_pos h1] at h ⊢
      rw [mt_k t n r _ _ _ h, nmb_cons]
      unfold tkK
      split <;> omega
    · rw [if_neg h1] at h ⊢
      by_cases h2 : s = 43
      · rw [if_pos h2] at h ⊢
        rw [mt_k t n r _ _ _ h, nmb_cons, if_neg (by rw [h2]; decide), Nat.zero_add]
      · rw [if_neg h2] at h
        cases h
/-- what stood among the numbers before doesn't matter -/
theorem mt_agree (t : Nat → Int32) (n : Nat) : ∀ (a : List Int32) (p : Nat) (u u' : Nat → Int32) (k : Nat), (∀ i, i < k → u i = u' i) → (mt t n a p u k).1 = (mt t n a p u' k).1 ∧ (mt t n a p u k).2.1 = (mt t n a p u' k).2.1 ∧ (mt t n a p u k).2.2.2 = (mt t n a p u' k).2.2.2 ∧ ∀ i, i < (mt t n a p u k).2.2.2 → (mt t n a p u k).2.2.1 i = (mt t n a p u' k).2.2.1 i
  | [], p, u, u', k, h => ⟨rfl, rfl, rfl, h⟩
  | s :: r, p, u, u', k, h => by
    rw [mt_cons, mt_cons]
    by_cases h1 : nxtB t n s p = true
    · rw [if_pos h1, if_pos h1]
      refine mt_agree t n r (p + 1) _ _ _ (fun i hi => ?_)
      unfold tkK at hi
      unfold tkU
      by_cases a1 : s = 42
      · rw [if_pos a1, if_pos a1]
        rw [if_pos (Or.inl a1)] at hi
        unfold upd
        by_cases hik : i = k
        · rw [if_pos hik, if_pos hik]
        · rw [if_neg hik, if_neg hik]; exact h i (by omega)
      · rw [if_neg a1, if_neg a1]
        by_cases a2 : s = 35
        · rw [if_pos a2, if_pos a2]
          rw [if_pos (Or.inr a2)] at hi
          unfold upd
          by_cases hik : i = k
          · rw [if_pos hik, if_pos hik]
          · rw [if_neg hik, if_neg hik]; exact h i (by omega)
        · rw [if_neg a2, if_neg a2]
          rw [if_neg (fun hc => hc.elim a1 a2)] at hi
          by_cases a3 : s = 43
          · rw [if_pos a3, if_pos a3]
            unfold upd
            rw [h (k - 1) (by omega)]
            by_cases hik : i = k - 1
            · rw [if_pos hik, if_pos hik]
            · rw [if_neg hik, if_neg hik]; exact h i hi
          · rw [if_neg a3, if_neg a3]
            exact h i hi
    · rw [if_neg h1, if_neg h1]
      by_cases h2 : s = 43
      · rw [if_pos h2, if_pos h2]
        exact mt_agree t n r p u u' k h
      · rw [if_neg h2, if_neg h2]
        exact ⟨rfl, rfl, rfl, h⟩
/-- there is room for a form's numbers -/
def okF : List Int32 → Nat → Bool
  | [], _ => true
  | s :: r, k => if s = 42 ∨ s = 35 then decide (k < 6) && okF r (k + 1) else if s = 43 then decide (0 < k) && decide (k ≤ 6) && okF r k else okF r k
theorem okF_cons (s : Int32) (r : List Int32) (k : Nat) : okF (s :: r) k = if s = 42 ∨ s = 35 then decide (k < 6) && okF r (k + 1) else if s = 43 then decide (0 < k) && decide (k ≤ 6) && okF r k else okF r k := rfl
section X0
variable {w : xW} {a n p k : Nat} {kd : Int32} {t u : Nat → Int32}
theorem CtAt.g0 (h : CtAt w a t n p kd u k) : x_getr w a 0 0 = some (some (a + 1)) := by simp [x_getr, x_get, h.1, x_vr]
theorem CtAt.g1 (h : CtAt w a t n p kd u k) : x_geti w a 0 1 = some (nI n) := by simp [x_geti, x_get, h.1, x_vi]
theorem CtAt.g2 (h : CtAt w a t n p kd u k) : x_geti w a 0 2 = some (nI p) := by simp [x_geti, x_get, h.1, x_vi]
theorem CtAt.g3 (h : CtAt w a t n p kd u k) : x_geti w a 0 3 = some kd := by simp [x_geti, x_get, h.1, x_vi]
theorem CtAt.g4 (h : CtAt w a t n p kd u k) : x_getr w a 0 4 = some (some (a + 2)) := by simp [x_getr, x_get, h.1, x_vr]
theorem CtAt.g5 (h : CtAt w a t n p kd u k) : x_geti w a 0 5 = some (nI k) := by simp [x_geti, x_get, h.1, x_vi]
theorem CtAt.o (h : CtAt w a t n p kd u k) : x_isO w a 0 = true := by simp [x_isO, h.1]
theorem CtAt.lt (h : CtAt w a t n p kd u k) : x_len w (a + 1) = some (nI 60) := len_of h.2.1 (by omega)
theorem CtAt.ln (h : CtAt w a t n p kd u k) : x_len w (a + 2) = some (nI 6) := len_of h.2.2.1 (by omega)
theorem CtAt.ldt (h : CtAt w a t n p kd u k) {i : Nat} (hi : i < 60) : x_ild w (a + 1) 1 (nI i) = some (t i) := ild_of h.2.1 hi (by omega)
theorem CtAt.ldn (h : CtAt w a t n p kd u k) {i : Nat} (hi : i < 6) : x_ild w (a + 2) 0 (nI i) = some (u i) := ild_of h.2.2.1 hi (by omega)
abbrev ctV (a n p : Nat) (kd : Int32) (k : Int32) : xE := .inr (0, [.ref (a + 1), .int (nI n), .int (nI p), .int kd, .ref (a + 2), .int k])
theorem CtAt.p1 (h : CtAt w a t n p kd u k) (m : Nat) : x_put w a 0 1 (.int (nI m)) = some (xset w a (ctV a m p kd (nI k))) := by simp [x_put, h.1]
theorem CtAt.p2 (h : CtAt w a t n p kd u k) (m : Nat) : x_put w a 0 2 (.int (nI m)) = some (xset w a (ctV a n m kd (nI k))) := by simp [x_put, h.1]
theorem CtAt.p3 (h : CtAt w a t n p kd u k) (x : Int32) : x_put w a 0 3 (.int x) = some (xset w a (ctV a n p x (nI k))) := by simp [x_put, h.1]
theorem CtAt.p5 (h : CtAt w a t n p kd u k) (m : Nat) : x_put w a 0 5 (.int (nI m)) = some (xset w a (ctV a n p kd (nI m))) := by simp [x_put, h.1]
theorem CtAt.sO (h : CtAt w a t n p kd u k) {n' p' : Nat} (hn : n' ≤ 60) (hp : p' ≤ 60) (kd' : Int32) (k' : Nat) : CtAt (xset w a (ctV a n' p' kd' (nI k'))) a t n' p' kd' u k' := ⟨xset_at _ _ _, (xset_ne (by omega)).trans h.2.1, (xset_ne (by omega)).trans h.2.2.1, hn, hp⟩
theorem CtAt.sN (h : CtAt w a t n p kd u k) (v : Nat → Int32) : CtAt (xset w (a + 2) (.inl (0, 6, .inl v))) a t n p kd v k := ⟨(xset_ne (by omega)).trans h.1, (xset_ne (by omega)).trans h.2.1, xset_at _ _ _, h.2.2.2.1, h.2.2.2.2⟩
theorem CtAt.stn (h : CtAt w a t n p kd u k) {i : Nat} (hi : i < 6) (x : Int32) : x_ist w (a + 2) 0 (nI i) x = some (xset w (a + 2) (.inl (0, 6, .inl (upd u i x)))) := ist_of h.2.2.1 hi (by omega) x
theorem CtAt.fr {w' : xW} (h : CtAt w a t n p kd u k) {A : Nat → Prop} (hf : Fr A w w') (hA : ∀ q, ctc a q → ¬ A q) : CtAt w' a t n p kd u k := ⟨(hf.2 _ (hA _ ⟨by omega, by omega⟩)).trans h.1, (hf.2 _ (hA _ ⟨by omega, by omega⟩)).trans h.2.1, (hf.2 _ (hA _ ⟨by omega, by omega⟩)).trans h.2.2.1, h.2.2.2.1, h.2.2.2.2⟩
theorem ct_fr0 {e : xE} : Fr (ctc a) w (xset w a e) := Fr.set ⟨by omega, by omega⟩
theorem ct_fr2 {e : xE} : Fr (ctc a) w (xset w (a + 2) e) := Fr.set ⟨by omega, by omega⟩
theorem X0_number (h : CtAt w a t n p kd u k) {i : Nat} (hi : i < 6) : f_X0_number a (nI i) w = x_ret (u i) w := by
  simp only [f_X0_number, h.g4, h.ln, ob, oe, h.ldn hi]
  rw [if_neg (nI_pos (by omega)), if_neg (nI_ge hi (by omega))]
theorem isM_nar2 (x : Int32) : x_nar 2 (if isM x = true then 1 else 0) = if isM x = true then 1 else 0 := by
  split <;> decide
theorem dig_if (x : Int32) (W : xW) : (if x < 48 then (x_ret 0 W : xO Int32) else (if 57 < x then x_ret 0 W else x_ret 1 W)) = x_ret (if digB x = true then 1 else 0) W := by
  unfold digB
  by_cases h1 : x < 48
  · simp [h1]
  · by_cases h2 : 57 < x
    · simp [h1, h2]
    · simp [h1, h2]
theorem X0_isNext (h : CtAt w a t n p kd u k) (s : Int32) : f_X0_isNext a s w = x_ret (if nxtB t n s p = true then 1 else 0) w := by
  have hn := h.2.2.2.1
  have hp := h.2.2.2.2
  simp only [f_X0_isNext, h.g1, h.g2, h.g0, h.lt, ob, oe]
  rw [if_neg (nI_pos (by omega))]
  by_cases hpn : p < n
  · rw [if_neg (nI_ge hpn (by omega)), if_pos (nI_lt (show p < 60 by omega) (by omega)), h.ldt (by omega), ob]
    simp only [X6_isMode, x_br, isM_nar2, if_true, dig_if]
    have e : nxtB t n s p = fitB s (t p) := by simp [nxtB, hpn]
    rw [e]
    unfold fitB
    by_cases a1 : s = 42
    · rw [if_pos a1, if_pos a1]
    · rw [if_neg a1, if_neg a1]
      by_cases a2 : s = 35
      · rw [if_pos a2, if_pos (Or.inl a2)]
      · rw [if_neg a2]
        by_cases a3 : s = 43
        · rw [if_pos a3, if_pos (Or.inr a3)]
        · rw [if_neg a3, if_neg (fun hc : s = 35 ∨ s = 43 => hc.elim a2 a3)]
          by_cases a4 : t p = s
          · rw [if_pos a4, if_pos (decide_eq_true a4)]
          · rw [if_neg a4, if_neg (fun hc => a4 (of_decide_eq_true hc))]
  · rw [if_pos (nI_le (by omega) (by omega)), show nxtB t n s p = false by simp [nxtB, hpn]]
    rfl
theorem X0_addNumber (h : CtAt w a t n p kd u k) (hk : k < 6) (x : Int32) : ∃ w', f_X0_addNumber a x w = x_ret () w' ∧ CtAt w' a t n p kd (upd u k x) (k + 1) ∧ Fr (ctc a) w w' := by
  have h1 := h.sN (upd u k x)
  refine ⟨_, ?_, h1.sO h.2.2.2.1 h.2.2.2.2 kd (k + 1), ct_fr2.tr ct_fr0⟩
  simp only [f_X0_addNumber, h.g5, h.g4, h.ln, ob, oe, h.stn hk, h1.g5]
  rw [if_neg (nI_pos (by omega)), if_neg (nI_ge hk (by omega)), ← nI_succ, h1.p5, ob]
theorem X0_take (h : CtAt w a t n p kd u k) (hp : p < 60) {s : Int32} (hs : (s = 42 ∨ s = 35 → k < 6) ∧ (s = 43 → 0 < k ∧ k ≤ 6)) : ∃ w', f_X0_take a s w = x_ret () w' ∧ CtAt w' a t n (p + 1) kd (tkU s (t p) u k) (tkK s k) ∧ Fr (ctc a) w w' := by
  have h1 := h.sO h.2.2.2.1 (show p + 1 ≤ 60 by omega) kd k
  simp only [f_X0_take, h.g2, h.g0, h.lt, ob, oe, h.ldt hp]
  rw [if_neg (nI_pos (by omega)), if_pos (nI_lt hp (by omega)), ← nI_succ, h.p2, ob]
  unfold tkU tkK
  by_cases a1 : s = 42
  · rw [if_pos a1, if_pos h1.o, if_pos a1, if_pos (Or.inl a1)]
    obtain ⟨w2, e2, q1, q2⟩ := X0_addNumber h1 (hs.1 (Or.inl a1)) (t p)
    exact ⟨w2, by rw [e2, x_br], q1, ct_fr0.tr q2⟩
  · rw [if_neg a1, if_neg a1]
    by_cases a2 : s = 35
    · rw [if_pos a2, if_pos h1.o, if_pos a2, if_pos (Or.inr a2)]
      obtain ⟨w2, e2, q1, q2⟩ := X0_addNumber h1 (hs.1 (Or.inr a2)) (t p - 48)
      exact ⟨w2, by rw [e2, x_br], q1, ct_fr0.tr q2⟩
    · rw [if_neg a2, if_neg a2, if_neg (fun hc : s = 42 ∨ s = 35 => hc.elim a1 a2)]
      by_cases a3 : s = 43
      · rw [if_pos a3, if_pos a3]
        obtain ⟨b1, b2⟩ := hs.2 a3
        obtain ⟨k, rfl⟩ : ∃ j, k = j + 1 := ⟨k - 1, by omega⟩
        have h2 := h1.sO h1.2.2.2.1 h1.2.2.2.2 kd k
        obtain ⟨w3, e3, q1, q2⟩ := X0_addNumber h2 (show k < 6 by omega) (u k * 10 + t p - 48)
        rw [h1.g5, ob, nI_pred, h1.p5, ob, h2.g5, ob, if_pos h2.o, X0_number h2 (show k < 6 by omega), x_br, if_pos h2.o]
        refine ⟨w3, by rw [e3, x_br], q1, (ct_fr0.tr ct_fr0).tr q2⟩
      · rw [if_neg a3, if_neg a3]
        exact ⟨_, rfl, h1, ct_fr0⟩
/-- the signs of a form, as the literal has them -/
def xCh (i : Nat) : List Int32 := (xBy i).map fun b => x_c (b &&& 255)
theorem J0_len {i : Nat} (hi : i < 43) : f_J0_length_8abf5 i w = x_ret (nI (xCh i).length) w := by
  unfold f_J0_length_8abf5 xCh
  rw [if_pos hi, List.length_map]
theorem xCh_lt {i : Nat} (hi : i < 43) : (xCh i).length < 100 := by
  unfold xCh
  rw [List.length_map]
  exact xBy_lt i hi
theorem at_map (f : Int32 → Int32) : ∀ (B : List Int32) (j : Nat) (s : Int32) (r : List Int32), (B.map f).drop j = s :: r → f (B.getD j 0) = s ∧ j < B.length
  | [], j, s, r, h => by
    rw [List.map_nil, List.drop_nil] at h
    cases h
  | b :: B, 0, s, r, h => by
    have h1 : f b :: B.map f = s :: r := h
    exact ⟨(List.cons.inj h1).1, Nat.succ_pos _⟩
  | b :: B, j + 1, s, r, h => by
    have h1 := at_map f B j s r h
    exact ⟨h1.1, Nat.succ_lt_succ h1.2⟩
theorem J0_at {i j : Nat} (hi : i < 43) {s : Int32} {r : List Int32} (hd : (xCh i).drop j = s :: r) : f_J0_charAt_5068e i (nI j) w = x_ret s w := by
  have h1 := at_map _ _ _ _ _ hd
  have hl2 : (xBy i).length < 100 := xBy_lt i hi
  unfold f_J0_charAt_5068e
  rw [if_pos ⟨hi, nI_pos' (by omega), nI_lt h1.2 (by omega)⟩]
  congr 1
  unfold x_sch
  rw [nI_clamp (by omega)]
  exact h1.1
theorem X0_form_L {i : Nat} (hi : i < 43) : ∀ (r : List Int32) (j fu : Nat) (w : xW) (p : Nat) (u : Nat → Int32) (k : Nat), (xCh i).drop j = r → j ≤ 100 → r.length < fu → okF r k = true → CtAt w a t n p kd u k →
    ∃ w', f_X0_readForm_L7 fu a i (nI j) w = x_ret (if (mt t n r p u k).1 = true then 1 else 0) w' ∧ CtAt w' a t n (mt t n r p u k).2.1 kd (mt t n r p u k).2.2.1 (mt t n r p u k).2.2.2 ∧ Fr (ctc a) w w' := by
  have hl := xCh_lt hi
  intro r
  induction r with
  | nil =>
    intro j fu w p u k hd hj9 hfu hok h
    obtain ⟨fu, rfl⟩ : ∃ m, fu = m + 1 := ⟨fu - 1, by omega⟩
    have hj : (xCh i).length ≤ j := List.drop_eq_nil_iff.mp hd
    refine ⟨w, ?_, h, Fr.rf⟩
    simp only [f_X0_readForm_L7]
    rw [if_pos hi, J0_len hi, x_br]
    rw [if_pos (nI_le hj (by omega))]
    rfl
  | cons s r ih =>
    intro j fu w p u k hd hj9 hfu hok h
    obtain ⟨fu, rfl⟩ : ∃ m, fu = m + 1 := ⟨fu - 1, by omega⟩
    have hd2 : (xCh i).drop (j + 1) = r := by
      rw [← List.drop_drop, hd]
      rfl
    have hj : j < (xCh i).length := by
      have h9 := congrArg List.length hd
      rw [List.length_drop, List.length_cons] at h9
      omega
    simp only [f_X0_readForm_L7]
    rw [if_pos hi, J0_len hi, x_br, if_neg (nI_ge hj (by omega)), if_pos hi, J0_at hi hd, x_br, if_pos h.o, X0_isNext h, x_br, ← nI_succ j, mt_cons]
    have hfu' : r.length < fu := by rw [List.length_cons] at hfu; omega
    by_cases h1 : nxtB t n s p = true
    · rw [if_pos h1, if_neg (by decide), if_pos h.o, if_pos h1]
      have hpn : p < n := by
        unfold nxtB at h1
        simp at h1
        exact h1.1
      have hs : (s = 42 ∨ s = 35 → k < 6) ∧ (s = 43 → 0 < k ∧ k ≤ 6) ∧ okF r (tkK s k) = true := by
        rw [okF_cons] at hok
        unfold tkK
        by_cases b1 : s = 42 ∨ s = 35
        · rw [if_pos b1] at hok
          simp at hok
          refine ⟨fun _ => hok.1, fun hc => ?_, by rw [if_pos b1]; exact hok.2⟩
          subst hc
          exact absurd b1 (by decide)
        · rw [if_neg b1] at hok
          rw [if_neg b1]
          by_cases b2 : s = 43
          · rw [if_pos b2] at hok
            simp at hok
            exact ⟨fun hc => absurd hc b1, fun _ => hok.1, hok.2⟩
          · rw [if_neg b2] at hok
            exact ⟨fun hc => absurd hc b1, fun hc => absurd hc b2, hok⟩
      obtain ⟨w1, e1, q1, q2⟩ := X0_take h (show p < 60 by have := h.2.2.2.1; omega) ⟨hs.1, hs.2.1⟩
      obtain ⟨w2, e2, q3, q4⟩ := ih (j + 1) fu w1 (p + 1) _ _ hd2 (by omega) hfu' hs.2.2 q1
      exact ⟨w2, by rw [e1, x_br, e2], q3, q2.tr q4⟩
    · rw [if_neg h1, if_pos rfl, if_neg h1]
      by_cases h2 : s = 43
      · rw [if_pos h2, if_pos h2]
        have hok' : okF r k = true := by
          rw [okF_cons] at hok
          rw [if_neg (by rw [h2]; decide), if_pos h2] at hok
          simp at hok
          exact hok.2
        exact ih (j + 1) fu w p u k hd2 (by omega) hfu' hok' h
      · rw [if_neg h2, if_neg h2]
        exact ⟨w, rfl, h, Fr.rf⟩
end X0
