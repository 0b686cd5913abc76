/-! ===== what commands do, as functions of the block ===== -/
/-- positions have slots of their own -/
def InjG (g : WL) : Prop := ∀ i j, i < 6 → j < 6 → g.sg i = g.sg j → i = j
/-- an answer: a number, or one of the codes -/
def Okv (l : List Int32) (v : Int32) : Prop := v ∈ l ∨ ∃ k : Nat, k < 2 ^ 31 ∧ v = nI k
theorem Okv.nI {l : List Int32} {k : Nat} (h : k < 2 ^ 31) : Okv l (nI k) := Or.inr ⟨k, h, rfl⟩
theorem cnt_mono (p q : Nat → Bool) : ∀ n : Nat, (∀ k, k < n → p k = true → q k = true) → cnt n p ≤ cnt n q
  | 0, _ => Nat.le_refl _
  | n + 1, h => by
    have h1 := cnt_mono p q n (fun k hk => h k (by omega))
    rw [cnt_succ, cnt_succ]
    by_cases hp : p n = true
    · rw [if_pos hp, if_pos (h n (by omega) hp)]
      omega
    · rw [if_neg hp]
      omega
theorem rowF_or (l n y : Nat) (x : Int32) : ∀ (u : Nat → Int32) (c : Nat), rowF l n y x u c = x ∨ rowF l n y x u c = u c := by
  unfold rowF
  generalize List.range' l n = L
  induction L with
  | nil => exact fun u c => Or.inr rfl
  | cons a L ih =>
    intro u c
    rw [List.foldl_cons]
    rcases ih (upd u (8 * y + a) x) c with h | h
    · exact Or.inl h
    · rw [h]
      unfold upd
      by_cases hc : c = 8 * y + a
      · exact Or.inl (if_pos hc)
      · exact Or.inr (if_neg hc)
theorem rectF_or (l n up m : Nat) (x : Int32) : ∀ (u : Nat → Int32) (c : Nat), rectF l n up m x u c = x ∨ rectF l n up m x u c = u c := by
  unfold rectF
  generalize List.range' up m = L
  induction L with
  | nil => exact fun u c => Or.inr rfl
  | cons a L ih =>
    intro u c
    rw [List.foldl_cons]
    rcases ih (rowF l n a x u) c with h | h
    · exact Or.inl h
    · rw [h]
      exact rowF_or l n a x u c
theorem isT_ne {x : Int32} (h : isT x = true) : x ≠ -1 := fun hc => by subst hc; exact absurd h (by decide)
theorem addG_v (g : WL) (hn : g.n ≤ 6) (x : Int32) : Okv [-3, -4] (addG g x).1 := by
  unfold addG
  by_cases h1 : isM x = true
  · rw [if_pos h1]
    by_cases h2 : g.n < 6
    · rw [if_pos h2]; exact Okv.nI (by omega)
    · rw [if_neg h2]; exact Or.inl (by simp)
  · rw [if_neg h1]; exact Or.inl (by simp)
theorem turnG_v (g : WL) (hn : g.n ≤ 6) (p y : Int32) : Okv [-2, -4] (turnG g p y).1 := by
  unfold turnG
  split
  · exact Or.inl (by simp)
  · rename_i i _
    by_cases h2 : g.v i = y
    · rw [if_pos h2]; exact Or.inl (by simp)
    · rw [if_neg h2]
      refine Okv.nI ?_
      exact Nat.lt_of_le_of_lt (cnt_le _ _) (by omega)
theorem paintG_v (g : WL) (p l u r lo x : Int32) : Okv [-2, -3] (paintG g p l u r lo x).1 := by
  unfold paintG
  split
  · exact Or.inl (by simp)
  · rename_i i _
    by_cases h1 : isC l u = true ∧ isC r lo = true
    · rw [if_pos h1]
      by_cases h2 : r < l ∨ lo < u ∨ ¬ isT x = true
      · rw [if_pos h2]; exact Or.inl (by simp)
      · rw [if_neg h2]
        have hx : isT x = true := Classical.byContradiction (fun h => h2 (Or.inr (Or.inr h)))
        have hle : tonesG (g.t i) ≤ tonesG (rectT l u r lo x (g.t i)) := cnt_mono _ _ 48 (fun k _ hk => by
          have h3 : g.t i k ≠ -1 := by simpa using hk
          have h4 : rectT l u r lo x (g.t i) k ≠ -1 := by
            rcases rectF_or l.toNatClampNeg (r.toNatClampNeg + 1 - l.toNatClampNeg) u.toNatClampNeg (lo.toNatClampNeg + 1 - u.toNatClampNeg) x (g.t i) k with h | h
            · unfold rectT; rw [h]; exact isT_ne hx
            · unfold rectT; rw [h]; exact h3
          simpa using h4)
        have h48 : tonesG (rectT l u r lo x (g.t i)) ≤ 48 := cnt_le _ _
        show Okv _ (nI _ - nI _)
        rw [nI_sub hle]
        exact Okv.nI (by omega)
    · rw [if_neg h1]; exact Or.inl (by simp)
theorem eraseG_v (g : WL) (p x y r : Int32) : Okv [-2, -3] (eraseG g p x y r).1 := by
  unfold eraseG
  split
  · exact Or.inl (by simp)
  · rename_i i _
    by_cases h1 : isC x y = true
    · rw [if_pos h1]
      by_cases h2 : r < 0 ∨ ¬ r ≤ 9
      · rw [if_pos h2]; exact Or.inl (by simp)
      · rw [if_neg h2]
        have h3 := clr_count (g.t i) x y r
        have h48 : tonesG (g.t i) ≤ 48 := cnt_le _ _
        show Okv _ (nI _ - nI _)
        rw [nI_sub (by omega)]
        exact Okv.nI (by omega)
    · rw [if_neg h1]; exact Or.inl (by simp)
theorem castG_v (g : WL) (p hr : Int32) : Okv [-2, -3, -4] (castG g p hr).1 := by
  unfold castG
  split
  · exact Or.inl (by simp)
  · by_cases h1 : hr < 6 ∨ ¬ hr ≤ 18
    · rw [if_pos h1]; exact Or.inl (by simp)
    · rw [if_neg h1]
      by_cases h2 : g.n < 6
      · rw [if_pos h2]
        refine Okv.nI ?_
        exact Nat.lt_of_le_of_lt (cnt_le _ _) (by omega)
      · rw [if_neg h2]; exact Or.inl (by simp)
theorem mergeG_v (g : WL) (p : Int32) : Okv [-2, -5, -6] (mergeG g p).1 := by
  unfold mergeG
  split
  · exact Or.inl (by simp)
  · exact Or.inl (by simp)
  · split
    · refine Okv.nI ?_
      exact Nat.lt_of_le_of_lt (cnt_le _ _) (by omega)
    · exact Or.inl (by simp)
theorem moveG_v (g : WL) (p q : Int32) : Okv [-2] (moveG g p q).1 := by
  unfold moveG
  split
  · refine Okv.nI ?_
    exact Nat.lt_of_le_of_lt (cnt_le _ _) (by omega)
  · exact Or.inl (by simp)
theorem dropG_v (g : WL) (hn : g.n ≤ 6) (p : Int32) : Okv [-2] (dropG g p).1 := by
  unfold dropG
  split
  · exact Or.inl (by simp)
  · exact Okv.nI (by omega)
/-- the codes are below nothing, the numbers aren't -/
theorem Okv.neg {l : List Int32} {v : Int32} (h : Okv l v) (hl : ∀ x, x ∈ l → x < 0) : (v < 0 ∧ v ∈ l) ∨ (¬ v < 0 ∧ v ∉ l) := by
  rcases h with h | ⟨k, hk, rfl⟩
  · exact Or.inl ⟨hl v h, h⟩
  · exact Or.inr ⟨nI_pos hk, fun hc => nI_pos hk (hl _ hc)⟩
theorem mov_inj {g : WL} (h : InjG g) (hn : g.n ≤ 6) {a b : Nat} (ha : a < g.n) (hb : b < g.n) : InjG (movG g a b) := fun i j hi hj he => mvI_inj (h _ _ (mvI_lt (by omega) (by omega) hi) (mvI_lt (by omega) (by omega) hj) he)
theorem posG_lt {g : WL} (hn : g.n ≤ 6) {p : Int32} {i : Nat} (h : posG g p = some i) : i < g.n := by
  rcases posG_or g hn p with ⟨j, hj, -, he⟩ | ⟨-, he⟩
  · rw [h] at he
    cases he
    exact hj
  · rw [h] at he
    cases he
theorem addG_i {g : WL} (h : InjG g) (x : Int32) : InjG (addG g x).2 := by
  unfold addG
  by_cases h1 : isM x = true
  · rw [if_pos h1]
    by_cases h2 : g.n < 6
    · rw [if_pos h2]; exact h
    · rw [if_neg h2]; exact h
  · rw [if_neg h1]; exact h
theorem turnG_i {g : WL} (h : InjG g) (p y : Int32) : InjG (turnG g p y).2 := by
  unfold turnG
  split
  · exact h
  · rename_i i _
    by_cases h2 : g.v i = y
    · rw [if_pos h2]; exact h
    · rw [if_neg h2]; exact h
theorem paintG_i {g : WL} (h : InjG g) (p l u r lo x : Int32) : InjG (paintG g p l u r lo x).2 := by
  unfold paintG
  split
  · exact h
  · by_cases h1 : isC l u = true ∧ isC r lo = true
    · rw [if_pos h1]
      by_cases h2 : r < l ∨ lo < u ∨ ¬ isT x = true
      · rw [if_pos h2]; exact h
      · rw [if_neg h2]; exact h
    · rw [if_neg h1]; exact h
theorem eraseG_i {g : WL} (h : InjG g) (p x y r : Int32) : InjG (eraseG g p x y r).2 := by
  unfold eraseG
  split
  · exact h
  · by_cases h1 : isC x y = true
    · rw [if_pos h1]
      by_cases h2 : r < 0 ∨ ¬ r ≤ 9
      · rw [if_pos h2]; exact h
      · rw [if_neg h2]; exact h
    · rw [if_neg h1]; exact h
theorem castG_i {g : WL} (h : InjG g) (p hr : Int32) : InjG (castG g p hr).2 := by
  unfold castG
  split
  · exact h
  · by_cases h1 : hr < 6 ∨ ¬ hr ≤ 18
    · rw [if_pos h1]; exact h
    · rw [if_neg h1]
      by_cases h2 : g.n < 6
      · rw [if_pos h2]; exact h
      · rw [if_neg h2]; exact h
theorem tkG_i {g : WL} (h : InjG g) (hn : g.n ≤ 6) {i : Nat} (hi : i < g.n) : InjG (tkG g i) := mov_inj h hn hi (show g.n - 1 < g.n by omega)
theorem mergeG_i {g : WL} (h : InjG g) (hn : g.n ≤ 6) (p : Int32) : InjG (mergeG g p).2 := by
  unfold mergeG
  split
  · exact h
  · exact h
  · rename_i k hp
    have hk := posG_lt hn hp
    split
    · exact tkG_i (g := g.put (g.sg k) (g.m k) (g.v k) (covT (g.t (k + 1)) (g.t k))) h hn hk
    · exact h
theorem moveG_i {g : WL} (h : InjG g) (hn : g.n ≤ 6) (p q : Int32) : InjG (moveG g p q).2 := by
  unfold moveG
  split
  · rename_i a b ha hb
    exact mov_inj h hn (posG_lt hn ha) (posG_lt hn hb)
  · exact h
theorem dropG_i {g : WL} (h : InjG g) (hn : g.n ≤ 6) (p : Int32) : InjG (dropG g p).2 := by
  unfold dropG
  split
  · exact h
  · rename_i i hp
    exact tkG_i h hn (posG_lt hn hp)
/-- a command -/
def cmdG (g : WL) (kd : Nat) (u : Nat → Int32) : Int32 × WL := match kd with
  | 0 => addG g (u 0)
  | 1 => paintG g (u 0) (u 1) (u 2) (u 3) (u 4) (u 5)
  | 2 => eraseG g (u 0) (u 1) (u 2) (u 3)
  | 3 => turnG g (u 0) 0
  | 4 => turnG g (u 0) 1
  | 5 => mergeG g (u 0)
  | 6 => moveG g (u 0) (u 1)
  | _ => castG g (u 0) (u 1)
/-- commands until one fails -/
def exeG (t : Nat → Int32) (n : Nat) : Nat → Nat → Nat → WL → Int32 × WL
  | 0, _, _, g => (-1, g)
  | m + 1, k, p, g => if (cmdG g (rdG t n p).2.2.1 (rdG t n p).2.2.2).1 < 0 then (nI k, (cmdG g (rdG t n p).2.2.1 (rdG t n p).2.2.2).2) else exeG t n m (k + 1) ((rdG t n p).2.1 + 1) (cmdG g (rdG t n p).2.2.1 (rdG t n p).2.2.2).2
section X7z
variable {w : xW} {c : Nat} {F : Nat → Int32} {ar : Nat → Nat → Int32} {g : WL}
/-- a change of the model, its code told apart -/
def DRun (c : Nat) (w : xW) (F : Nat → Int32) (ar : Nat → Nat → Int32) (f : xO Int32) (r : Int32 × WL) : Prop :=
  ∃ w' F' ar' v, f = x_ret v w' ∧ (v = 0 ↔ ¬ r.1 < 0) ∧ MoAt w' c F' ar' ∧ Fr (moc c) w w' ∧ (∀ k, k ≠ 17 → F' k = F k) ∧ (∀ k, k ≠ 1 → k ≠ 8 → k ≠ 10 → ar' k = ar k) ∧ RelS r.2 (ar' 1)
theorem MRun.d {cd : Int32 → Int32} {f : xO Int32} {r : Int32 × WL} (h : MRun cd c w F ar f r) (hv : cd r.1 = 0 ↔ ¬ r.1 < 0) : DRun c w F ar f r := by
  obtain ⟨w', F', ar', h1, h2, h3, h4, h5, h6, -⟩ := h
  exact ⟨w', F', ar', _, h1, hv, h2, h3, h4, h5, h6⟩
theorem cd_iff {cd : Int32 → Int32} {l : List Int32} {v : Int32} (h : Okv l v) (hl : ∀ x, x ∈ l → x < 0) (h1 : ∀ x, x ∈ l → cd x ≠ 0) (h2 : ∀ k, k < 2 ^ 31 → cd (nI k) = 0) : cd v = 0 ↔ ¬ v < 0 := by
  rcases h with h | ⟨k, hk, rfl⟩
  · exact ⟨fun hc => absurd hc (h1 v h), fun hc => absurd (hl v h) hc⟩
  · exact ⟨fun _ => nI_pos hk, fun _ => h2 k hk⟩
theorem neg2 {a b : Int32} (ha : a < 0) (hb : b < 0) : ∀ x, x ∈ [a, b] → x < 0 := fun x hx => by
  rcases List.mem_cons.mp hx with rfl | hx
  · exact ha
  · rcases List.mem_cons.mp hx with rfl | hx
    · exact hb
    · cases hx
/-- a command done by the model -/
theorem X7_does (h : MoAt w c F ar) (r : RelS g (ar 1)) (hs : InjG g) {k kd : Nat} (hk : k < 60) (hkd : kd < 8) {u : Nat → Int32} (h0 : ar 6 (7 * k) = srt kd) (hu : ∀ i, i < nmb (fm kd) → ar 6 (7 * k + 1 + i) = u i) : DRun c w F ar (f_X7_does c (nI k) w) (cmdG g kd u) := by
  have h6 := r.2.2.2.1
  have e0 : x_ild w (c + 6) 0 (7 * nI k) = some (srt kd) := by
    rw [show (7 : Int32) * nI k = nI (7 * k) by rw [show (7 : Int32) = nI 7 from rfl, nI_mul], ← h0]
    exact h.ld 6 (by omega) (by omega) (i := 7 * k) (by show _ < 420; omega)
  have el : ∀ i, i < nmb (fm kd) → x_ild w (c + 6) 0 (7 * nI k + nI (1 + i)) = some (u i) := fun i hi => by
    have := fm_n6 kd
    rw [ix7, ← hu i hi, ← Nat.add_assoc]
    exact h.ld 6 (by omega) (by omega) (i := 7 * k + 1 + i) (by show _ < 420; omega)
  have hkk : kd = 0 ∨ kd = 1 ∨ kd = 2 ∨ kd = 3 ∨ kd = 4 ∨ kd = 5 ∨ kd = 6 ∨ kd = 7 := by omega
  unfold f_X7_does
  rw [h.r8, ob, oe, e0, ob]
  rcases hkk with rfl | rfl | rfl | rfl | rfl | rfl | rfl | rfl
  · have l0 := el 0 (by decide)
    rw [show nI (1 + 0) = (1 : Int32) from rfl] at l0
    rw [if_neg (by decide), if_neg (by decide), if_pos (by decide), ob, oe, l0, ob, if_pos h.o]
    refine MRun.d (cd := cdA) ?_ (cd_iff (addG_v g h6 _) (by decide) (by decide) (fun _ hk => cdA_nI hk))
    obtain ⟨w', F', ar', a1, a2⟩ := X7_adds h r hs (u 0)
    exact ⟨w', F', ar', by rw [a1, x_br]; rfl, a2⟩
  · have l0 := el 0 (by decide)
    have l1 := el 1 (by decide)
    have l2 := el 2 (by decide)
    have l3 := el 3 (by decide)
    have l4 := el 4 (by decide)
    have l5 := el 5 (by decide)
    rw [show nI (1 + 0) = (1 : Int32) from rfl] at l0
    rw [show nI (1 + 1) = (2 : Int32) from rfl] at l1
    rw [show nI (1 + 2) = (3 : Int32) from rfl] at l2
    rw [show nI (1 + 3) = (4 : Int32) from rfl] at l3
    rw [show nI (1 + 4) = (5 : Int32) from rfl] at l4
    rw [show nI (1 + 5) = (6 : Int32) from rfl] at l5
    rw [if_neg (by decide), if_neg (by decide), if_neg (by decide), if_neg (by decide), if_neg (by decide), if_pos (by decide), ob, oe, l0, ob, ob, oe, l1, ob, ob, oe, l2, ob, ob, oe, l3, ob, ob, oe, l4, ob, ob, oe, l5, ob, if_pos h.o]
    refine MRun.d (cd := cdP) ?_ (cd_iff (paintG_v g _ _ _ _ _ _) (by decide) (by decide) (fun _ hk => cdP_nI hk))
    obtain ⟨w', F', ar', a1, a2⟩ := X7_paints h r hs (u 0) (u 1) (u 2) (u 3) (u 4) (u 5)
    exact ⟨w', F', ar', by rw [a1, x_br]; rfl, a2⟩
  · have l0 := el 0 (by decide)
    have l1 := el 1 (by decide)
    have l2 := el 2 (by decide)
    have l3 := el 3 (by decide)
    rw [show nI (1 + 0) = (1 : Int32) from rfl] at l0
    rw [show nI (1 + 1) = (2 : Int32) from rfl] at l1
    rw [show nI (1 + 2) = (3 : Int32) from rfl] at l2
    rw [show nI (1 + 3) = (4 : Int32) from rfl] at l3
    rw [if_pos (by decide), ob, oe, l0, ob, ob, oe, l1, ob, ob, oe, l2, ob, ob, oe, l3, ob, if_pos h.o]
    refine MRun.d (cd := cdP) ?_ (cd_iff (eraseG_v g _ _ _ _) (by decide) (by decide) (fun _ hk => cdP_nI hk))
    obtain ⟨w', F', ar', a1, a2⟩ := X7_erases h r hs (u 0) (u 1) (u 2) (u 3)
    exact ⟨w', F', ar', by rw [a1, x_br]; rfl, a2⟩
  · have l0 := el 0 (by decide)
    rw [show nI (1 + 0) = (1 : Int32) from rfl] at l0
    rw [if_neg (by decide), if_pos (by decide), ob, oe, l0, ob, if_pos h.o]
    refine MRun.d (cd := cdT) ?_ (cd_iff (turnG_v g h6 _ _) (by decide) (by decide) (fun _ hk => cdT_nI hk))
    obtain ⟨w', F', ar', a1, a2⟩ := X7_turns h r hs (u 0) (y := 0) (Or.inl rfl)
    exact ⟨w', F', ar', by rw [a1, x_br]; rfl, a2⟩
  · have l0 := el 0 (by decide)
    rw [show nI (1 + 0) = (1 : Int32) from rfl] at l0
    rw [if_neg (by decide), if_neg (by decide), if_neg (by decide), if_neg (by decide), if_neg (by decide), if_neg (by decide), if_pos (by decide), ob, oe, l0, ob, if_pos h.o]
    refine MRun.d (cd := cdT) ?_ (cd_iff (turnG_v g h6 _ _) (by decide) (by decide) (fun _ hk => cdT_nI hk))
    obtain ⟨w', F', ar', a1, a2⟩ := X7_turns h r hs (u 0) (y := 1) (Or.inr rfl)
    exact ⟨w', F', ar', by rw [a1, x_br]; rfl, a2⟩
  · have l0 := el 0 (by decide)
    rw [show nI (1 + 0) = (1 : Int32) from rfl] at l0
    rw [if_neg (by decide), if_neg (by decide), if_neg (by decide), if_pos (by decide), ob, oe, l0, ob, if_pos h.o]
    refine MRun.d (cd := cdM) ?_ (cd_iff (mergeG_v g _) (by decide) (by decide) (fun _ hk => cdM_nI hk))
    obtain ⟨w', F', ar', a1, a2⟩ := X7_merges h r hs (u 0)
    exact ⟨w', F', ar', by rw [a1, x_br]; rfl, a2⟩
  · have l0 := el 0 (by decide)
    have l1 := el 1 (by decide)
    rw [show nI (1 + 0) = (1 : Int32) from rfl] at l0
    rw [show nI (1 + 1) = (2 : Int32) from rfl] at l1
    rw [if_neg (by decide), if_neg (by decide), if_neg (by decide), if_neg (by decide), if_pos (by decide), ob, oe, l0, ob, ob, oe, l1, ob, if_pos h.o]
    refine MRun.d (cd := cdD) ?_ (cd_iff (moveG_v g _ _) (by decide) (by decide) (fun _ hk => cdD_nI hk))
    obtain ⟨w', F', ar', a1, a2⟩ := X7_moves h r (u 0) (u 1)
    exact ⟨w', F', ar', by rw [a1, x_br]; rfl, a2⟩
  · have l0 := el 0 (by decide)
    have l1 := el 1 (by decide)
    rw [show nI (1 + 0) = (1 : Int32) from rfl] at l0
    rw [show nI (1 + 1) = (2 : Int32) from rfl] at l1
    rw [if_neg (by decide), if_neg (by decide), if_neg (by decide), if_neg (by decide), if_neg (by decide), if_neg (by decide), if_neg (by decide), ob, oe, l0, ob, ob, oe, l1, ob, if_pos h.o]
    refine MRun.d (cd := cdC) ?_ (cd_iff (castG_v g _ _) (by decide) (by decide) (fun _ hk => cdC_nI hk))
    obtain ⟨w', F', ar', a1, a2⟩ := X7_casts h r hs (u 0) (u 1)
    exact ⟨w', F', ar', by rw [a1, x_br]; rfl, a2⟩
theorem cmdG_i {g : WL} (h : InjG g) (hn : g.n ≤ 6) (kd : Nat) (u : Nat → Int32) : InjG (cmdG g kd u).2 := by
  unfold cmdG
  split
  · exact addG_i h _
  · exact paintG_i h _ _ _ _ _ _
  · exact eraseG_i h _ _ _ _
  · exact turnG_i h _ _
  · exact turnG_i h _ _
  · exact mergeG_i h hn _
  · exact moveG_i h hn _ _
  · exact castG_i h _ _
/-- commands done by the model until one fails -/
theorem X7_exe_L {t : Nat → Int32} {e : Nat} : ∀ (m k p n : Nat) (w : xW) (F : Nat → Int32) (ar : Nat → Nat → Int32) (g : WL), m < n → k + m ≤ 60 → MoAt w c F ar → RelS g (ar 1) → InjG g → F 20 = nI (k + m) → TlR t e (ar 6) m k p → chn t e m p →
    ∃ w' F' ar', MoAt w' c F' ar' ∧ Fr (moc c) w w' ∧ (∀ k, k ≠ 17 → F' k = F k) ∧ (∀ k, k ≠ 1 → k ≠ 8 → k ≠ 10 → ar' k = ar k) ∧
      (((exeG t e m k p g).1 = -1 ∧ f_X7_runCommands_L104 n c (nI k) w = f_X7_changed c (nI (k + m)) w' ∧ RelS (exeG t e m k p g).2 (ar' 1)) ∨
       ∃ j, j < 60 ∧ (exeG t e m k p g).1 = nI j ∧ f_X7_runCommands_L104 n c (nI k) w = f_X7_runCommands_L125 xfuel c (nI j) 0 w') := by
  intro m
  induction m with
  | zero =>
    intro k p n w F ar g hn hk h r hs h20 htd hch
    obtain ⟨n, rfl⟩ : ∃ m, n = m + 1 := ⟨n - 1, by omega⟩
    refine ⟨w, F, ar, h, Fr.rf, fun _ _ => rfl, fun _ _ _ _ => rfl, Or.inl ⟨rfl, ?_, r⟩⟩
    simp only [f_X7_runCommands_L104]
    rw [h.g20, ob, h20, Nat.add_zero, if_pos (nI_le (Nat.le_refl _) (by omega)), ob, if_pos h.o]
    generalize f_X7_changed c (nI k) w = X
    match X with
    | none => rfl
    | some (.inl v, w') => rfl
    | some (.inr E, w') => rfl
  | succ m ih =>
    intro k p n w F ar g hn hk h r hs h20 htd hch
    obtain ⟨n, rfl⟩ : ∃ m, n = m + 1 := ⟨n - 1, by omega⟩
    obtain ⟨d1, d2, d3⟩ := htd
    obtain ⟨c1, c2, c3, c4⟩ := hch
    have h6 := r.2.2.2.1
    obtain ⟨w1, F1, ar1, v, q1, q2, q3, q4, q5, q6, q7⟩ := X7_does h r hs (k := k) (kd := (rdG t e p).2.2.1) (by omega) (rdG_gt c2).2 d1 d2
    have st1 : f_X7_runCommands_L104 (n + 1) c (nI k) w = (if v = 0 then (f_X7_runCommands_L104 n c (nI (k + 1)) w1) else (f_X7_runCommands_L125 xfuel c (nI k) 0 w1)) := by
      simp only [f_X7_runCommands_L104]
      rw [h.g20, ob, h20, if_neg (nI_ge (by omega) (by omega)), if_pos h.o, q1, x_br, nI_succ]
    unfold exeG
    by_cases hneg : (cmdG g (rdG t e p).2.2.1 (rdG t e p).2.2.2).1 < 0
    · rw [if_pos hneg]
      refine ⟨w1, F1, ar1, q3, q4, q5, q6, Or.inr ⟨k, by omega, rfl, ?_⟩⟩
      rw [st1, if_neg (fun hc => q2.mp hc hneg)]
    · rw [if_neg hneg]
      obtain ⟨w2, F2, ar2, r1, r2, r3, r4, r5⟩ := ih (k + 1) ((rdG t e p).2.1 + 1) n w1 F1 ar1 _ (by omega) (by omega) q3 q7 (cmdG_i hs h6 _ _) (by rw [q5 20 (by omega), h20, show k + 1 + m = k + (m + 1) by omega]) (by rw [q6 6 (by omega) (by omega) (by omega)]; exact d3) c4
      refine ⟨w2, F2, ar2, r1, q4.tr r2, fun z hz => (r3 z hz).trans (q5 z hz), fun z z1 z2 z3 => (r4 z z1 z2 z3).trans (q6 z z1 z2 z3), ?_⟩
      rw [st1, if_pos (q2.mpr hneg)]
      rcases r5 with ⟨s1, s2, s3⟩ | ⟨j, s1, s2, s3⟩
      · exact Or.inl ⟨s1, by rw [s2, show k + 1 + m = k + (m + 1) by omega], s3⟩
      · exact Or.inr ⟨j, s1, s2, s3⟩
end X7z
