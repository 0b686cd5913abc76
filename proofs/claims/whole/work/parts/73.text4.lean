/-! ===== texts: the model reads ===== -/
theorem x_nar01 : x_nar 2 0 = 0 ∧ x_nar 2 1 = 1 := by decide
/-- a word's signs stand for themselves -/
def plnB (l : List Int32) : Bool := l.all fun s => decide (s ≠ 42 ∧ s ≠ 35 ∧ s ≠ 43 ∧ s ≠ -1)
theorem tk_pl {s : Int32} (h : s ≠ 42 ∧ s ≠ 35 ∧ s ≠ 43) (x : Int32) (u : Nat → Int32) (k : Nat) : tkU s x u k = u ∧ tkK s k = k := by
  unfold tkU tkK
  rw [if_neg h.1, if_neg h.2.1, if_neg h.2.2, if_neg (fun hc => hc.elim h.1 h.2.1)]
  exact ⟨rfl, rfl⟩
theorem mtc_app (t : Nat → Int32) (n : Nat) (a b : List Int32) (p : Nat) : mtc t n (a ++ b) p = if (mtc t n a p).1 = true then mt t n b (mtc t n a p).2.1 (mtc t n a p).2.2.1 (mtc t n a p).2.2.2 else mtc t n a p := mt_app t n b a p _ _
section X7u
variable {w : xW} {c : Nat} {F : Nat → Int32} {ar : Nat → Nat → Int32} {e cm p : Nat} {so : Int32}
theorem X7_here (h : MoAt w c F ar) {q m : Nat} (h8 : F 18 = nI q) (h9 : F 19 = nI e) (he : e ≤ 60) (hq : q ≤ 60) (hm : m ≤ 1) : f_X7_here c (nI m) w = x_ret (if q + m < e then ar 5 (q + m) else -1) w := by
  simp only [f_X7_here, h.g18, h.g19, h.r7, ob, oe, h8, h9, nI_add]
  by_cases hc : q + m < e
  · rw [if_neg (nI_ge hc (by omega)), if_pos hc, h.ld 5 (by omega) (by omega) (i := q + m) (by show _ < 60; omega), ob]
  · rw [if_pos (nI_le (by omega) (by omega)), if_neg hc]
/-- while a command is read: what has been taken stands for the list L -/
def MP (w : xW) (c : Nat) (F : Nat → Int32) (ar : Nat → Nat → Int32) (e cm : Nat) (so : Int32) (p : Nat) (L : List Int32) : Prop :=
  ∃ F' ar', MoAt w c F' ar' ∧ F' 18 = nI (mtc (ar 5) e L p).2.1 ∧ F' 21 = (if (mtc (ar 5) e L p).1 = true then 0 else 1) ∧ (∀ k, k ≠ 18 → k ≠ 21 → F' k = F k) ∧ (∀ k, k ≠ 6 → ar' k = ar k) ∧ (∀ j, j < 7 * cm → ar' 6 j = ar 6 j) ∧ ar' 6 (7 * cm) = so ∧
    ((mtc (ar 5) e L p).1 = true → ∀ i, i < (mtc (ar 5) e L p).2.2.2 → ar' 6 (7 * cm + 1 + i) = (mtc (ar 5) e L p).2.2.1 i)
/-- what holds of the reading as a whole -/
def RdH (F : Nat → Int32) (e cm p : Nat) : Prop := F 19 = nI e ∧ F 20 = nI cm ∧ e ≤ 60 ∧ cm ≤ 30 ∧ p ≤ e
theorem X7_J36 (h : MoAt w c F ar) (K : Nat → Nat → Int32 → xW → xO Unit) (i j : Nat) (b : Bool) {q : Nat} (h8 : F 18 = nI q) :
    ∃ w', f_X7_says_J36 K c i (nI j) (if b = true then 0 else 1) (some c) w = K c i (nI (j + 1)) w' ∧ MoAt w' c (upd (upd F 21 (if b = true then 0 else 1)) 18 (nI (if b = true then q + 1 else q))) ar ∧ Fr (moc c) w w' := by
  have h1 := h.sF (upd F 21 (if b = true then 0 else 1))
  have e8 : upd F 21 (if b = true then 0 else 1) 18 = nI q := by unfold upd; rw [if_neg (by omega)]; exact h8
  have e21 : upd F 21 (if b = true then 0 else 1) 21 = if b = true then 0 else 1 := by unfold upd; rw [if_pos rfl]
  unfold f_X7_says_J36
  rw [oe, if_pos (show x_nar 2 (if b = true then 0 else 1) = if b = true then 0 else 1 by cases b <;> decide), h.p21, ob, h1.g18, ob, h1.g21, ob, e8, e21, ← nI_succ j]
  cases b with
  | true =>
    rw [if_pos rfl, if_pos rfl, ← nI_succ, (h.sF (upd F 21 0)).p18, ob]
    exact ⟨_, rfl, h1.sF _, (wF_fr _).tr (wF_fr _)⟩
  | false =>
    rw [if_neg (show ¬ false = true by decide), if_neg (by decide), if_neg (show ¬ false = true by decide), Int32.add_zero, (h.sF (upd F 21 1)).p18, ob]
    exact ⟨_, rfl, h1.sF _, (wF_fr _).tr (wF_fr _)⟩
theorem upd2 {F : Nat → Int32} {x y : Int32} {k : Nat} (h1 : k ≠ 18) (h2 : k ≠ 21) : upd (upd F 21 x) 18 y k = F k := by
  unfold upd
  rw [if_neg h1, if_neg h2]
theorem X7_says_L {i : Nat} (hi : i < 43) (he : e ≤ 60) : ∀ (r : List Int32) (j fu : Nat) (w : xW) (F : Nat → Int32) (q : Nat) (u : Nat → Int32) (k : Nat), (xCh i).drop j = r → j ≤ 100 → r.length < fu → plnB r = true → MoAt w c F ar → F 18 = nI q → F 19 = nI e → F 21 = 0 → q ≤ e →
    ∃ w' F', f_X7_says_L2 fu c i (nI j) w = x_ret () w' ∧ MoAt w' c F' ar ∧ Fr (moc c) w w' ∧ F' 18 = nI (mt (ar 5) e r q u k).2.1 ∧ F' 21 = (if (mt (ar 5) e r q u k).1 = true then 0 else 1) ∧ (∀ z, z ≠ 18 → z ≠ 21 → F' z = F z) ∧ (mt (ar 5) e r q u k).2.2 = (u, k) := by
  have hl := xCh_lt hi
  intro r
  induction r with
  | nil =>
    intro j fu w F q u k hd hj9 hfu hpl h h8 h9 h21 hq
    obtain ⟨fu, rfl⟩ : ∃ m, fu = m + 1 := ⟨fu - 1, by omega⟩
    have hj : (xCh i).length ≤ j := List.drop_eq_nil_iff.mp hd
    refine ⟨w, F, ?_, h, Fr.rf, h8, h21, fun _ _ _ => rfl, rfl⟩
    simp only [f_X7_says_L2]
    rw [if_pos hi, J0_len hi, x_br, if_pos (nI_le hj (by omega))]
  | cons s r ih =>
    intro j fu w F q u k hd hj9 hfu hpl h h8 h9 h21 hq
    obtain ⟨fu, rfl⟩ : ∃ m, fu = m + 1 := ⟨fu - 1, by omega⟩
    have hd2 : (xCh i).drop (j + 1) = r := by
      rw [← List.drop_drop, hd]
      rfl
    have hj : j < (xCh i).length := by
      have h9 := congrArg List.length hd
      rw [List.length_drop, List.length_cons] at h9
      omega
    have hfu' : r.length < fu := by rw [List.length_cons] at hfu; omega
    obtain ⟨p1, p2⟩ : (s ≠ 42 ∧ s ≠ 35 ∧ s ≠ 43 ∧ s ≠ -1) ∧ plnB r = true := by
      unfold plnB at hpl
      rw [List.all_cons, Bool.and_eq_true] at hpl
      exact ⟨of_decide_eq_true hpl.1, hpl.2⟩
    have hs : s ≠ 42 ∧ s ≠ 35 ∧ s ≠ 43 := ⟨p1.1, p1.2.1, p1.2.2.1⟩
    have e1 := X7_here h (m := 0) h8 h9 he (by omega) (by omega)
    rw [nI_0, Nat.add_zero] at e1
    simp only [f_X7_says_L2]
    rw [if_pos hi, J0_len hi, x_br, if_neg (nI_ge hj (by omega)), h.g21, ob, h21, if_pos rfl, if_pos h.o, e1, x_br, if_pos hi, J0_at hi hd, x_br, mt_cons]
    by_cases hc : q < e ∧ ar 5 q = s
    · have hn : nxtB (ar 5) e s q = true := (nxt_pl hs).mpr hc
      rw [if_pos hc.1, if_pos hc.2, if_pos hn, (tk_pl hs (ar 5 q) u k).1, (tk_pl hs (ar 5 q) u k).2]
      obtain ⟨w1, e2, q1, q2⟩ := X7_J36 h (fun a0 x1 x2 w => f_X7_says_L2 fu a0 x1 x2 w) i j true h8
      obtain ⟨w2, F2, e3, r1, r2, r3, r4, r5, r6⟩ := ih (j + 1) fu w1 _ (q + 1) u k hd2 (by omega) hfu' p2 q1 (by unfold upd; rw [if_pos rfl, if_pos rfl]) (by rw [upd2 (by omega) (by omega)]; exact h9) (by unfold upd; rw [if_neg (by omega), if_pos rfl, if_pos rfl]) hc.1
      exact ⟨w2, F2, e2.trans e3, r1, q2.tr r2, r3, r4, fun z z1 z2 => (r5 z z1 z2).trans (upd2 z1 z2), r6⟩
    · have hn : ¬ nxtB (ar 5) e s q = true := fun h7 => hc ((nxt_pl hs).mp h7)
      have hne : ¬ (if q < e then ar 5 q else -1) = s := fun h7 => by
        by_cases hqe : q < e
        · rw [if_pos hqe] at h7
          exact hc ⟨hqe, h7⟩
        · rw [if_neg hqe] at h7
          exact p1.2.2.2 h7.symm
      rw [if_neg hne, if_neg hn, if_neg p1.2.2.1]
      obtain ⟨w1, e2, q1, q2⟩ := X7_J36 h (fun a0 x1 x2 w => f_X7_says_L2 fu a0 x1 x2 w) i j false h8
      obtain ⟨fu, rfl⟩ : ∃ m, fu = m + 1 := ⟨fu - 1, by omega⟩
      refine ⟨w1, _, e2.trans ?_, q1, q2, by unfold upd; rw [if_pos rfl, if_neg (by decide)], by unfold upd; rw [if_neg (by omega), if_pos rfl], fun z z1 z2 => upd2 z1 z2, rfl⟩
      show f_X7_says_L2 (fu + 1) c i (nI (j + 1)) w1 = _
      simp only [f_X7_says_L2]
      rw [if_pos hi, J0_len hi, x_br]
      by_cases hend : (xCh i).length ≤ j + 1
      · rw [if_pos (nI_le hend (by omega))]
      · rw [if_neg (nI_ge (by omega) (by omega)), q1.g21, ob, if_neg]
        show ¬ upd (upd F 21 (if false = true then 0 else 1)) 18 (nI (if false = true then q + 1 else q)) 21 = 0
        unfold upd
        rw [if_neg (by omega), if_pos rfl]
        decide
theorem says_MP (H : RdH F e cm p) {i : Nat} (hi : i < 43) (hpl : plnB (xCh i) = true) {L : List Int32} (M : MP w c F ar e cm so p L) : ∃ w', f_X7_says c i w = x_ret () w' ∧ MP w' c F ar e cm so p (L ++ xCh i) ∧ Fr (moc c) w w' := by
  obtain ⟨H1, H2, H3, H4, H5⟩ := H
  obtain ⟨F', ar', h, m1, m2, m3, m4, m5, m6, m7⟩ := M
  have e5 : ar' 5 = ar 5 := m4 5 (by omega)
  have hle : (mtc (ar 5) e L p).2.1 ≤ e := mt_le _ _ _ _ _ _ H5
  by_cases hok : (mtc (ar 5) e L p).1 = true
  · rw [if_pos hok] at m2
    obtain ⟨w1, F1, e1, q1, q2, q3, q4, q5, q6⟩ := X7_says_L (c := c) (ar := ar') hi H3 (xCh i) 0 xfuel w F' _ (mtc (ar 5) e L p).2.2.1 (mtc (ar 5) e L p).2.2.2 (List.drop_zero) (by omega) (by have := xCh_lt hi; unfold xfuel; omega) hpl h m1 ((m3 19 (by omega) (by omega)).trans H1) m2 hle
    rw [e5] at q3 q4 q6
    have ea := mtc_app (ar 5) e L (xCh i) p
    rw [if_pos hok] at ea
    refine ⟨w1, ?_, ⟨F1, ar', q1, by rw [ea]; exact q3, by rw [ea]; exact q4, fun k k1 k2 => (q5 k k1 k2).trans (m3 k k1 k2), m4, m5, m6, fun _ i hi => ?_⟩, q2⟩
    · unfold f_X7_says
      rw [nI_0] at e1
      exact e1
    · rw [ea] at hi ⊢
      rw [q6] at hi ⊢
      exact m7 hok i hi
  · have hw : F' 21 = 1 := by rw [m2, if_neg hok]
    have ea := mtc_app (ar 5) e L (xCh i) p
    rw [if_neg hok] at ea
    refine ⟨w, ?_, ⟨F', ar', h, by rw [ea]; exact m1, by rw [ea]; exact m2, m3, m4, m5, m6, fun hc => ?_⟩, Fr.rf⟩
    · unfold f_X7_says
      obtain ⟨N, hN⟩ : ∃ N, xfuel = N + 1 := ⟨4999, rfl⟩
      rw [hN]
      simp only [f_X7_says_L2]
      rw [if_pos hi, J0_len hi, x_br]
      by_cases hz : (xCh i).length ≤ 0
      · rw [if_pos (show nI (xCh i).length ≤ 0 from nI_le (b := 0) hz (by omega))]
      · rw [if_neg (nI_nle (by omega) (by have := xCh_lt hi; omega)), h.g21, ob, hw, if_neg (by decide)]
    · rw [ea] at hc
      exact absurd hc hok
end X7u
