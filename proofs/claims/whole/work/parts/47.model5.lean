/-! ===== the model's changes: layers added, turned ===== -/
theorem RelS.eqw {g g' : WL} {S : Nat → Int32} (r : RelS g S) (e : EqW g g') : RelS g' S := by
  obtain ⟨e1, e2, e3, e4⟩ := e
  obtain ⟨r1, r2, r3, r4, r5⟩ := r
  refine ⟨by rw [r1, e1], by rw [r2, e2], by rw [r3, e3], by rw [← e1]; exact r4, fun l hl => ?_⟩
  rw [← e1] at hl
  obtain ⟨a1, a2, a3⟩ := e4 l hl
  obtain ⟨b1, b2, b3, b4⟩ := r5 l hl
  refine ⟨by rw [b1, a1], by rw [b2, a2], by rw [← a2]; exact b3, fun k hk => ?_⟩
  rw [← a3 k hk]
  exact b4 k hk
/-- the model's own change: its code, its answer, its array -/
def MRun (cd : Int32 → Int32) (c : Nat) (w : xW) (F : Nat → Int32) (ar : Nat → Nat → Int32) (f : xO Int32) (r : Int32 × WL) : Prop :=
  ∃ w' F' ar', f = x_ret (cd r.1) w' ∧ MoAt w' c F' ar' ∧ Fr (moc c) w w' ∧ (∀ k, k ≠ 17 → F' k = F k) ∧ (∀ k, k ≠ 1 → k ≠ 8 → k ≠ 10 → ar' k = ar k) ∧ RelS r.2 (ar' 1) ∧ (cd r.1 = 0 → F' 17 = r.1)
section X7d
variable {w : xW} {c : Nat} {F : Nat → Int32} {ar : Nat → Nat → Int32} {g : WL}
theorem MRun.stay {cd : Int32 → Int32} (h : MoAt w c F ar) (r : RelS g (ar 1)) {v x : Int32} (hv : cd v = x) (hx : x ≠ 0) : MRun cd c w F ar (x_ret x w) (v, g) :=
  ⟨w, F, ar, by rw [show cd (v, g).1 = x from hv], h, Fr.rf, fun _ _ => rfl, fun _ _ _ _ => rfl, r, fun h0 => absurd (hv.symm.trans h0) hx⟩
/-- a layer's places, emptied -/
def begS (l : Nat) (x : Int32) (S : Nat → Int32) : Nat → Int32 := fun i => if i = 3 + 50 * l then x else if i = 3 + 50 * l + 1 then 1 else if 3 + 50 * l + 2 ≤ i ∧ i < 3 + 50 * l + 50 then 0 else S i
theorem X7_beg_L (h : MoAt w c F ar) {l : Nat} (hl : l < 6) : ∀ (d k n : Nat) (u : Nat → Int32), k + d = 48 → d < n →
    f_X7_begins_L28 n c (nI l) (nI k) (wA w c 1 u) = x_ret () (wA w c 1 ((List.range' k d).foldl (fun u i => upd u (3 + 50 * l + 2 + i) ((fun _ => 0) i)) u)) := by
  intro d
  induction d with
  | zero =>
    intro k n u hk hn
    obtain ⟨n, rfl⟩ : ∃ m, n = m + 1 := ⟨n - 1, by omega⟩
    simp only [f_X7_begins_L28]
    rw [if_pos (show (48 : Int32) ≤ nI k from nI_le (a := 48) (by omega) (by omega))]
    rfl
  | succ d ih =>
    intro k n u hk hn
    obtain ⟨n, rfl⟩ : ∃ m, n = m + 1 := ⟨n - 1, by omega⟩
    have h1 := h.sA 1 (by omega) (by omega) u
    have e1 := X7_sets h1 hl (show k < 48 by omega) 0
    simp only [f_X7_begins_L28, h1.o, if_true, e1, x_br]
    rw [if_neg (show ¬ (48 : Int32) ≤ nI k from nI_ge (b := 48) (by omega) (by omega)), ← nI_succ k]
    show f_X7_begins_L28 n c (nI l) (nI (k + 1)) (wA (wA w c 1 u) c 1 (upd u (3 + 50 * l + 2 + k) 0)) = _
    rw [wA_wA, ih _ _ _ (by omega) (by omega)]
    rfl
theorem X7_begins (h : MoAt w c F ar) {l : Nat} (hl : l < 6) (x : Int32) : f_X7_begins c (nI l) x w = x_ret () (wA w c 1 (begS l x (ar 1))) := by
  have e1 := h.st 1 (by omega) (by omega) (i := 3 + 50 * l) (by show _ < 303; omega) x
  have h1 := h.sA 1 (by omega) (by omega) (upd (ar 1) (3 + 50 * l) x)
  have e2 : x_ist (wA w c 1 (upd (ar 1) (3 + 50 * l) x)) (c + 1) 0 (nI (3 + 50 * l + 1)) 1 = some (wA (wA w c 1 (upd (ar 1) (3 + 50 * l) x)) c 1 (upd (upd (ar 1) (3 + 50 * l) x) (3 + 50 * l + 1) 1)) := h1.st 1 (by omega) (by omega) (i := 3 + 50 * l + 1) (by show _ < 303; omega) 1
  have e3 := X7_beg_L h hl 48 0 xfuel (upd (upd (ar 1) (3 + 50 * l) x) (3 + 50 * l + 1) 1) (by omega) (by unfold xfuel; omega)
  rw [fo_R, fo_blk, nI_0] at e3
  unfold f_X7_begins
  rw [h.r1, ob, oe, ix0, e1, ob]
  show (x_getr (wA w c 1 (upd (ar 1) (3 + 50 * l) x)) c 7 1).bind _ = _
  rw [h1.r1, ob, oe, ← nI_succ, e2, ob, wA_wA, e3]
  congr 3
  funext i
  unfold begS upd
  repeat' split
  all_goals first | rfl | (exfalso; omega)
/-- the array behind a layer begun on top -/
theorem begS_rel {S : Nat → Int32} (r : RelS g S) (hn : g.n < 6) (hs : ∀ i j, i < 6 → j < 6 → g.sg i = g.sg j → i = j) {x : Int32} : RelS (begG g x) (upd (begS g.n x S) 0 (nI (g.n + 1))) := by
  obtain ⟨r1, r2, r3, r4, r5⟩ := r
  have hu : ∀ i, i ≠ 0 → upd (begS g.n x S) 0 (nI (g.n + 1)) i = begS g.n x S i := fun i hi => by unfold upd; rw [if_neg hi]
  have hb : ∀ i, i < 3 → begS g.n x S i = S i := fun i hi => by
    unfold begS
    rw [if_neg (by omega), if_neg (by omega), if_neg (by omega)]
  refine ⟨rfl, by rw [hu 1 (by omega), hb 1 (by omega)]; exact r2, by rw [hu 2 (by omega), hb 2 (by omega)]; exact r3, hn, fun l hl => ?_⟩
  have hl' : l < g.n + 1 := hl
  unfold sm sv st
  rw [hu _ (by omega), hu _ (by omega)]
  by_cases hln : l = g.n
  · subst hln
    refine ⟨?_, ?_, Or.inr ?_, fun k hk => ?_⟩
    · unfold begS; rw [if_pos rfl]; simp [begG, WL.m, WL.put, WL.num, WL.md, WL.sg, WL.mk, WL.n]
    · unfold begS; rw [if_neg (by omega), if_pos rfl]; simp [begG, WL.v, WL.put, WL.num, WL.vi, WL.sg, WL.mk, WL.n]
    · simp [begG, WL.v, WL.put, WL.num, WL.vi, WL.sg, WL.mk, WL.n]
    · have e : (begG g x).t g.n k = -1 := by simp [begG, WL.t, WL.put, WL.num, WL.to, WL.sg, WL.mk, WL.n, hk]
      rw [e, hu _ (by omega)]
      refine ⟨?_, okT_neg⟩
      unfold begS
      rw [if_neg (by omega), if_neg (by omega), if_pos (by omega)]
      decide
  · have hne : g.sg l ≠ g.sg g.n := fun hc => hln (hs _ _ (by omega) (by omega) hc)
    have hne' : g.2.2.2.1 l ≠ g.2.2.2.1 g.1 := hne
    obtain ⟨b1, b2, b3, b4⟩ := r5 l (by omega)
    have em : (begG g x).m l = g.m l := by simp [begG, WL.m, WL.put, WL.num, WL.md, WL.sg, WL.mk, WL.n, hne']
    have ev : (begG g x).v l = g.v l := by simp [begG, WL.v, WL.put, WL.num, WL.vi, WL.sg, WL.mk, WL.n, hne']
    have et : (begG g x).t l = g.t l := by simp [begG, WL.t, WL.put, WL.num, WL.to, WL.sg, WL.mk, WL.n, hne']
    rw [em, ev, et]
    refine ⟨?_, ?_, b3, fun k hk => ?_⟩
    · unfold begS; rw [if_neg (by omega), if_neg (by omega), if_neg (by omega)]; exact b1
    · unfold begS; rw [if_neg (by omega), if_neg (by omega), if_neg (by omega)]; exact b2
    · rw [hu _ (by omega)]
      unfold begS
      rw [if_neg (by omega), if_neg (by omega), if_neg (by omega)]
      exact b4 k hk
def cdA (v : Int32) : Int32 := if v = -3 then 1 else if v = -4 then 2 else 0
theorem cdA_nI {k : Nat} (hk : k < 2 ^ 31) : cdA (nI k) = 0 := by
  unfold cdA
  have h0 := nI_toInt hk
  rw [if_neg (fun hc => ?_), if_neg (fun hc => ?_)]
  · rw [hc] at h0
    have : (-4 : Int32).toInt = -4 := by decide
    omega
  · rw [hc] at h0
    have : (-3 : Int32).toInt = -3 := by decide
    omega
theorem X7_adds (h : MoAt w c F ar) (r : RelS g (ar 1)) (hs : ∀ i j, i < 6 → j < 6 → g.sg i = g.sg j → i = j) (x : Int32) : MRun cdA c w F ar (f_X7_adds c x w) (addG g x) := by
  have h6 := r.2.2.2.1
  simp only [f_X7_adds, X7_isMode, x_br]
  by_cases hm : isM x = true
  · rw [if_pos hm, if_neg (by decide), h.r1, ob, oe, X7_n h, ob, r.1]
    by_cases hn : g.n < 6
    · rw [if_neg (fun hc : nI g.n = (6 : Int32) => absurd ((nI_eq (b := 6) (by omega) (by omega)).mp hc) (by omega)), ob, oe, X7_n h, ob, r.1, if_pos h.o, X7_begins h hn, x_br]
      have h1 := h.sA 1 (by omega) (by omega) (begS g.n x (ar 1))
      have eb : begS g.n x (ar 1) 0 = nI g.n := by
        unfold begS
        rw [if_neg (by omega), if_neg (by omega), if_neg (by omega)]
        exact r.1
      have e1 : x_ild (wA w c 1 (begS g.n x (ar 1))) (c + 1) 0 0 = some (nI g.n) := by
        rw [← eb]
        exact X7_n h1
      have e2 : x_ist (wA w c 1 (begS g.n x (ar 1))) (c + 1) 0 0 (nI (g.n + 1)) = some (wA (wA w c 1 (begS g.n x (ar 1))) c 1 (upd (begS g.n x (ar 1)) 0 (nI (g.n + 1)))) := h1.st 1 (by omega) (by omega) (i := 0) (by show 0 < 303; omega) (nI (g.n + 1))
      have h2 := h.sA 1 (by omega) (by omega) (upd (begS g.n x (ar 1)) 0 (nI (g.n + 1)))
      have e3 : x_ild (wA w c 1 (upd (begS g.n x (ar 1)) 0 (nI (g.n + 1)))) (c + 1) 0 0 = some (nI (g.n + 1)) := X7_n h2
      obtain ⟨w3, e4, h3, f3⟩ := X7_done h2 (nI g.n)
      have ev : addG g x = (nI g.n, begG g x) := by simp [addG, hm, hn]
      refine ⟨w3, upd F 17 (nI g.n), _, ?_, h3, (wA_fr (by omega) _).tr f3, fun k hk => by unfold upd; rw [if_neg hk], fun k hk _ _ => by rw [if_neg hk], ?_, fun _ => by rw [ev]; rfl⟩
      · rw [h1.r1, ob, oe, e1, ob, ← nI_succ, e2, ob, wA_wA]
        show (x_getr (wA w c 1 (upd (begS g.n x (ar 1)) 0 (nI (g.n + 1)))) c 7 1).bind _ = _
        rw [h2.r1, ob, oe, e3, ob, if_pos h2.o, nI_pred, e4, x_br, ev, show cdA (nI g.n, begG g x).1 = 0 from cdA_nI (by omega)]
      · rw [ev]
        exact begS_rel r hn hs
    · have hn6 : g.n = 6 := by omega
      rw [hn6, if_pos (show nI 6 = (6 : Int32) from rfl), show addG g x = (-4, g) by simp [addG, hm, hn]]
      exact MRun.stay h r (by decide) (by decide)
  · rw [if_neg hm, if_pos rfl, show addG g x = (-3, g) by simp [addG, hm]]
    exact MRun.stay h r (by decide) (by decide)
end X7d
