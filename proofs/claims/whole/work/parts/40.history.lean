/-! ===== the ring of walls that can come back ===== -/
def HiAt (w : xW) (h nx sz : Nat) (G : Nat → WL) : Prop :=
  (∃ f : Nat → Option Nat, w.2 h = some (.inr (2, [.ref (h + 1), .int (nI nx), .int (nI sz)])) ∧ w.2 (h + 1) = some (.inl (4, 9, .inr (.inr (.inr (.inr f))))) ∧ ∀ i, i < 9 → f i = some (h + 2 + 14 * i)) ∧ (∀ i, i < 9 → LsAt w (h + 2 + 14 * i) (G i)) ∧ nx < 9 ∧ sz ≤ 8
section X2
variable {w : xW} {h nx sz : Nat} {G : Nat → WL}
theorem HiAt.g0 (k : HiAt w h nx sz G) : x_getr w h 2 0 = some (some (h + 1)) := by
  obtain ⟨⟨f, h1, -⟩, -⟩ := k
  simp [x_getr, x_get, h1, x_vr]
theorem HiAt.g1 (k : HiAt w h nx sz G) : x_geti w h 2 1 = some (nI nx) := by
  obtain ⟨⟨f, h1, -⟩, -⟩ := k
  simp [x_geti, x_get, h1, x_vi]
theorem HiAt.g2 (k : HiAt w h nx sz G) : x_geti w h 2 2 = some (nI sz) := by
  obtain ⟨⟨f, h1, -⟩, -⟩ := k
  simp [x_geti, x_get, h1, x_vi]
theorem HiAt.o (k : HiAt w h nx sz G) : x_isO w h 2 = true := by
  obtain ⟨⟨f, h1, -⟩, -⟩ := k
  simp [x_isO, h1]
theorem HiAt.len (k : HiAt w h nx sz G) : x_len w (h + 1) = some (nI 9) := by
  obtain ⟨⟨f, h1, h2, -⟩, -⟩ := k
  simp [x_len, h2]
theorem HiAt.ld (k : HiAt w h nx sz G) {i : Nat} (hi : i < 9) : x_ald w (h + 1) 4 (nI i) = some (some (h + 2 + 14 * i)) := by
  obtain ⟨⟨f, h1, h2, h3⟩, -⟩ := k
  simp only [x_ald, h2]
  rw [if_pos ⟨trivial, nI_in (N := 9) hi (by decide)⟩, nI_clamp (by omega), h3 i hi]
theorem HiAt.p1 (k : HiAt w h nx sz G) {v : Int32} : x_put w h 2 1 (.int v) = some (xset w h (.inr (2, [.ref (h + 1), .int v, .int (nI sz)]))) := by
  obtain ⟨⟨f, h1, -⟩, -⟩ := k
  simp [x_put, h1]
theorem HiAt.p2 (k : HiAt w h nx sz G) {v : Int32} : x_put w h 2 2 (.int v) = some (xset w h (.inr (2, [.ref (h + 1), .int (nI nx), .int v]))) := by
  obtain ⟨⟨f, h1, -⟩, -⟩ := k
  simp [x_put, h1]
theorem HiAt.set (k : HiAt w h nx sz G) {a c : Nat} (ha : a < 9) (hc : c ≤ 8) : HiAt (xset w h (.inr (2, [.ref (h + 1), .int (nI a), .int (nI c)]))) h a c G := by
  obtain ⟨⟨f, h1, h2, h3⟩, h4, h5, h6⟩ := k
  refine ⟨⟨f, xset_at _ _ _, (xset_ne (by omega)).trans h2, h3⟩, fun i hi => ?_, ha, hc⟩
  exact (h4 i hi).fr (Fr.set (A := fun q => q = h) rfl) (fun q hq ha => by unfold blk at hq; omega)
theorem X2_nextSlot (k : HiAt w h nx sz G) : f_X2_nextSlot h w = x_ret (some (h + 2 + 14 * nx)) w := by
  have h9 := k.2.2.1
  simp only [f_X2_nextSlot, k.g1, k.g0, k.len, ob, oe, k.ld h9]
  rw [if_neg (nI_pos (by omega)), if_neg (nI_ge h9 (by omega))]
/-- all cells of the ring -/
def ring (h : Nat) : Nat → Prop := fun q => h ≤ q ∧ q < h + 128
theorem HiAt.fr {w' : xW} (k : HiAt w h nx sz G) {A : Nat → Prop} (hf : Fr A w w') (hA : ∀ q, ring h q → ¬ A q) : HiAt w' h nx sz G := by
  obtain ⟨⟨f, h1, h2, h3⟩, h4, h5⟩ := k
  refine ⟨⟨f, (hf.2 _ (hA _ ⟨by omega, by omega⟩)).trans h1, (hf.2 _ (hA _ ⟨by omega, by omega⟩)).trans h2, h3⟩, fun i hi => (h4 i hi).fr hf (fun q hq => hA q ?_), h5⟩
  unfold blk at hq
  exact ⟨by omega, by omega⟩
theorem X2_prepare (k : HiAt w h nx sz G) {b : Nat} {g : WL} (hb : LsAt w b g) (hap : b + 14 ≤ h ∨ h + 128 ≤ b) :
    ∃ (w' : xW) (g' : WL), f_X2_prepare h (some b) w = x_ret () w' ∧ HiAt w' h nx sz (fun i => if i = nx then g' else G i) ∧ EqW g' g ∧ Fr (ring h) w w' := by
  have h9 := k.2.2.1
  have hs := k.2.1 nx h9
  obtain ⟨w', g', e, h1, hf, he⟩ := X4_copyFrom (b := h + 2 + 14 * nx) (b' := b) (by unfold apart; omega) hs hb
  have hfr : Fr (ring h) w w' := hf.mono (fun q hq => by unfold blk at hq; exact ⟨by omega, by omega⟩)
  refine ⟨w', g', ?_, ?_, he, hfr⟩
  · simp only [f_X2_prepare, k.o, if_true, X2_nextSlot k, x_br, oe, hs.o, e]
  · obtain ⟨⟨f, q1, q2, q3⟩, q4, q5⟩ := k
    refine ⟨⟨f, (hf.2 _ (fun hq => by unfold blk at hq; omega)).trans q1, (hf.2 _ (fun hq => by unfold blk at hq; omega)).trans q2, q3⟩, fun i hi => ?_, q5⟩
    by_cases hin : i = nx
    · subst hin
      show LsAt w' _ (if i = i then g' else G i)
      rw [if_pos rfl]
      exact h1
    · show LsAt w' _ (if i = nx then g' else G i)
      rw [if_neg hin]
      exact (q4 i hi).fr hf (fun q hq ha => by unfold blk at hq ha; omega)
def nxUp (nx : Nat) : Nat := if nx + 1 < 9 then nx + 1 else 0
def szUp (sz : Nat) : Nat := if sz < 8 then sz + 1 else 8
theorem X2_commit (k : HiAt w h nx sz G) : ∃ w', f_X2_commit h w = x_ret () w' ∧ HiAt w' h (nxUp nx) (szUp sz) G ∧ Fr (fun q => q = h) w w' := by
  have h9 := k.2.2.1
  have h8 := k.2.2.2
  have hm : ∀ W : xW, f_J9_min_7cf53 (nI sz + 1) 8 W = x_ret (nI (szUp sz)) W := fun W => by
    rw [J9_min, ← nI_succ]
    unfold szUp
    by_cases h1 : sz < 8
    · rw [if_neg (show ¬ (8 : Int32) < nI (sz + 1) from nI_nlt (a := 8) (b := sz + 1) (by omega) (by omega)), if_pos h1]
    · rw [if_pos (show (8 : Int32) < nI (sz + 1) from nI_lt (a := 8) (by omega) (by omega)), if_neg h1]
      rfl
  simp only [f_X2_commit, k.g1, k.g0, k.len, ob, oe]
  by_cases hn : nx + 1 < 9
  · have k1 := k.set (a := nx + 1) (c := sz) hn h8
    have k2 := k1.set (a := nx + 1) (c := szUp sz) hn (by unfold szUp; split <;> omega)
    rw [← nI_succ, if_neg (nI_ge (by omega) (by omega)), k.p1]
    simp only [ob, k1.g2, hm, x_br, k1.p2]
    refine ⟨_, rfl, ?_, (Fr.set (A := fun q => q = h) rfl).tr (Fr.set (A := fun q => q = h) rfl)⟩
    rw [show nxUp nx = nx + 1 by simp [nxUp, hn]]
    exact k2
  · have k1 := k.set (a := 0) (c := sz) (by omega) h8
    have k2 := k1.set (a := 0) (c := szUp sz) (by omega) (by unfold szUp; split <;> omega)
    rw [← nI_succ, if_pos (nI_le (by omega) (by omega)), show (0 : Int32) = nI 0 from rfl, k.p1]
    simp only [ob, k1.g2, hm, x_br, k1.p2]
    refine ⟨_, rfl, ?_, (Fr.set (A := fun q => q = h) rfl).tr (Fr.set (A := fun q => q = h) rfl)⟩
    rw [show nxUp nx = 0 by simp [nxUp, hn]]
    exact k2
theorem X2_fetch (k : HiAt w h nx sz G) {b : Nat} {g : WL} (hb : LsAt w b g) (hap : b + 14 ≤ h ∨ h + 128 ≤ b) :
    ∃ (w' : xW) (g' : WL), f_X2_fetchPrepared h (some b) w = x_ret () w' ∧ LsAt w' b g' ∧ HiAt w' h nx sz G ∧ EqW g' (G nx) ∧ Fr (blk b) w w' := by
  have h9 := k.2.2.1
  have hs := k.2.1 nx h9
  obtain ⟨w', g', e, h1, hf, he⟩ := X4_copyFrom (b := b) (b' := h + 2 + 14 * nx) (by unfold apart; omega) hb hs
  refine ⟨w', g', ?_, h1, k.fr hf (fun q hq ha => by unfold ring at hq; unfold blk at ha; omega), he, hf⟩
  simp only [f_X2_fetchPrepared, k.o, if_true, X2_nextSlot k, x_br, oe, hb.o, e]
def nxDn (nx : Nat) : Nat := if nx = 0 then 8 else nx - 1
theorem X2_stepBack (k : HiAt w h nx (sz + 1) G) {b : Nat} {g : WL} (hb : LsAt w b g) (hap : b + 14 ≤ h ∨ h + 128 ≤ b) :
    ∃ (w' : xW) (g' : WL), f_X2_stepBack h (some b) w = x_ret () w' ∧ LsAt w' b g' ∧ HiAt w' h (nxDn nx) sz G ∧ EqW g' (G (nxDn nx)) ∧ Fr (fun q => blk b q ∨ q = h) w w' := by
  have h9 := k.2.2.1
  have h8 := k.2.2.2
  have hno : ∀ q, blk b q → ¬ (q = h) := fun q hq ha => by unfold blk at hq; omega
  simp only [f_X2_stepBack, k.g1, k.g0, k.len, ob, oe]
  by_cases hn : nx = 0
  · subst hn
    have k1 := k.set (a := 8) (c := sz + 1) (by omega) h8
    have k2 := k1.set (a := 8) (c := sz) (by omega) (by omega)
    have f2 : Fr (fun q => q = h) w _ := (Fr.set (A := fun q => q = h) (w := w) (a := h) (e := .inr (2, [.ref (h + 1), .int (nI 8), .int (nI (sz + 1))])) rfl).tr (Fr.set (A := fun q => q = h) (a := h) (e := .inr (2, [.ref (h + 1), .int (nI 8), .int (nI sz)])) rfl)
    obtain ⟨w', g', e, a1, a2, a3, a4⟩ := X2_fetch k2 (hb.fr f2 hno) hap
    rw [if_pos (show nI 0 ≤ (0 : Int32) from nI_le (a := 0) (b := 0) (by omega) (by omega)), show nI 9 - 1 = nI 8 from nI_pred 8, k.p1]
    simp only [ob, k1.g2, nI_pred, k1.p2, k2.o, if_true, e, x_br]
    exact ⟨w', g', rfl, a1, a2, a3, (f2.mono (fun q hq => Or.inr hq)).tr (a4.mono (fun q hq => Or.inl hq))⟩
  · obtain ⟨n, rfl⟩ : ∃ n, nx = n + 1 := ⟨nx - 1, by omega⟩
    have k1 := k.set (a := n) (c := sz + 1) (by omega) h8
    have k2 := k1.set (a := n) (c := sz) (by omega) (by omega)
    have f2 : Fr (fun q => q = h) w _ := (Fr.set (A := fun q => q = h) (w := w) (a := h) (e := .inr (2, [.ref (h + 1), .int (nI n), .int (nI (sz + 1))])) rfl).tr (Fr.set (A := fun q => q = h) (a := h) (e := .inr (2, [.ref (h + 1), .int (nI n), .int (nI sz)])) rfl)
    obtain ⟨w', g', e, a1, a2, a3, a4⟩ := X2_fetch k2 (hb.fr f2 hno) hap
    rw [if_neg (nI_nle (by omega) (by omega)), nI_pred, k.p1]
    simp only [ob, k1.g2, nI_pred, k1.p2, k2.o, if_true, e, x_br]
    refine ⟨w', g', rfl, a1, ?_, ?_, (f2.mono (fun q hq => Or.inr hq)).tr (a4.mono (fun q hq => Or.inl hq))⟩
    · rw [show nxDn (n + 1) = n by simp [nxDn]]; exact a2
    · rw [show nxDn (n + 1) = n by simp [nxDn]]; exact a3
theorem X2_forgetAll (k : HiAt w h nx sz G) : ∃ w', f_X2_forgetAll h w = x_ret () w' ∧ HiAt w' h nx 0 G ∧ Fr (fun q => q = h) w w' := by
  refine ⟨_, ?_, k.set (a := nx) (c := 0) k.2.2.1 (by omega), Fr.set rfl⟩
  simp only [f_X2_forgetAll, k.p2, ob]
  rfl
end X2
