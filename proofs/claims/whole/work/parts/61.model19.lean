/-! ===== the model moves as the class does; the end of a change ===== -/
section X7t
variable {w : xW} {c : Nat} {F : Nat → Int32} {ar : Nat → Nat → Int32} {g : WL}
theorem X7_moves (h : MoAt w c F ar) (r : RelS g (ar 1)) (p q : Int32) : MRun cdD c w F ar (f_X7_moves c p q w) (moveG g p q) := by
  have h6 := r.2.2.2.1
  simp only [f_X7_moves, h.o, if_true, X7_isLayer h r.1 h6, x_br, isLayer_if]
  rcases posG_or g h6 p with ⟨a, ha, rfl, hp⟩ | ⟨hq, hp⟩
  · rw [if_neg (fun hc : nI a < 0 ∨ nI g.n ≤ nI a => hc.elim (nI_pos (by omega)) (nI_ge ha (by omega))), if_neg (by decide)]
    rcases posG_or g h6 q with ⟨b, hb, rfl, hp'⟩ | ⟨hq', hp'⟩
    · rw [if_neg (fun hc : nI b < 0 ∨ nI g.n ≤ nI b => hc.elim (nI_pos (by omega)) (nI_ge hb (by omega))), if_neg (by decide)]
      have ev : moveG g (nI a) (nI b) = (nI (cnt 48 fun c => seeG g c != seeG (movG g a b) c), movG g a b) := by simp [moveG, hp, hp']
      have e1 := X7_bef_L h r (nI a) (nI b) 48 0 xfuel (ar 8) (by omega) (by unfold xfuel; omega)
      rw [wA_self h (by omega) (by omega), fo_R, fo_upd (fun _ => true) (seeG g) (ar 8) 48, nI_0] at e1
      generalize hB : (fun i => if i < 48 ∧ true = true then seeG g i else ar 8 i) = B at e1
      have hBv : ∀ i, i < 48 → B i = seeG g i := fun i hi => by rw [← hB]; exact if_pos ⟨hi, rfl⟩
      have h1 := h.sA 8 (by omega) (by omega) B
      have e2 : f_X7_moves_L45 xfuel c (nI a) (nI b) (nI 0) (wA (wA w c 8 B) c 10 (ar 10)) = (fun w0 => if nI b ≤ nI a then (f_X7_moves_L90 xfuel c (nI b) (-1) (nI a) w0) else (f_X7_moves_L90 xfuel c (nI b) 1 (nI a) w0)) (wA (wA w c 8 B) c 10 ((List.range' 0 50).foldl (fun u i => if true = true then upd u i (ar 1 (3 + 50 * a + i)) else u) (ar 10))) := X7_one_L h1 (a := a) (by omega) (nI b) 50 0 xfuel (ar 10) (by omega) (by unfold xfuel; omega)
      have e2w : wA (wA w c 8 B) c 10 (ar 10) = wA w c 8 B := wA_self h1 (k := 10) (by omega) (by omega)
      rw [e2w, fo_R, fo_upd (fun _ => true) (fun i => ar 1 (3 + 50 * a + i)) (ar 10) 50, nI_0] at e2
      generalize hO : (fun i => if i < 50 ∧ true = true then ar 1 (3 + 50 * a + i) else ar 10 i) = O at e2
      have hOv : ∀ i, i < 50 → O i = ar 1 (3 + 50 * a + i) := fun i hi => by rw [← hO]; exact if_pos ⟨hi, rfl⟩
      have h2 := h1.sA 10 (by omega) (by omega) O
      have e3w : wA (wA (wA w c 8 B) c 10 O) c 1 (ar 1) = wA (wA w c 8 B) c 10 O := wA_self h2 (k := 1) (by omega) (by omega)
      have key : ∃ u1 : Nat → Int32, (if nI b ≤ nI a then (f_X7_moves_L90 xfuel c (nI b) (-1) (nI a) (wA (wA w c 8 B) c 10 O)) else (f_X7_moves_L90 xfuel c (nI b) 1 (nI a) (wA (wA w c 8 B) c 10 O))) = f_X7_moves_L156 xfuel c (nI b) 0 (wA (wA (wA w c 8 B) c 10 O) c 1 u1) ∧ (∀ j, j < 3 → u1 j = ar 1 j) ∧ ∀ q k, q < 6 → k < 50 → q ≠ b → u1 (3 + 50 * q + k) = ar 1 (3 + 50 * mvI a b q + k) := by
        by_cases hab : b ≤ a
        · obtain ⟨u1, e3, hB1⟩ := X7_mdn_L h2 (S := ar 1) (a := a) (b := b) (by omega) (a - b) a xfuel (ar 1) (by omega) (Nat.le_refl _) (by unfold xfuel; omega) ⟨fun _ _ => rfl, fun q k hq hk => by
            show _ = ar 1 (3 + 50 * (if a < q ∧ q ≤ a then q - 1 else q) + k)
            rw [if_neg (by omega)]⟩
          rw [e3w] at e3
          refine ⟨u1, by rw [if_pos (nI_le hab (by omega))]; exact e3, hB1.1, fun q k hq hk hqb => ?_⟩
          rw [hB1.2 q k hq hk]
          show ar 1 (3 + 50 * (if b < q ∧ q ≤ a then q - 1 else q) + k) = _
          unfold mvI
          rw [if_neg hqb, if_neg (show ¬ (a ≤ q ∧ q < b) by omega)]
        · obtain ⟨u1, e3, hB1⟩ := X7_mup_L h2 (S := ar 1) (a := a) (b := b) (by omega) (b - a) a xfuel (ar 1) (by omega) (Nat.le_refl _) (by unfold xfuel; omega) ⟨fun _ _ => rfl, fun q k hq hk => by
            show _ = ar 1 (3 + 50 * (if a ≤ q ∧ q < a then q + 1 else q) + k)
            rw [if_neg (by omega)]⟩
          rw [e3w] at e3
          refine ⟨u1, by rw [if_neg (nI_ge (by omega) (by omega))]; exact e3, hB1.1, fun q k hq hk hqb => ?_⟩
          rw [hB1.2 q k hq hk]
          show ar 1 (3 + 50 * (if a ≤ q ∧ q < b then q + 1 else q) + k) = _
          unfold mvI
          rw [if_neg hqb]
          by_cases h9 : a ≤ q ∧ q < b
          · rw [if_pos h9, if_pos h9]
          · rw [if_neg h9, if_neg h9, if_neg (by omega)]
      obtain ⟨u1, e3, v1, v2⟩ := key
      have e4 := X7_put_L h2 (b := b) (by omega) 50 0 xfuel u1 (by omega) (by unfold xfuel; omega)
      rw [fo_R, fo_blk, nI_0] at e4
      generalize hU : (fun k => if 3 + 50 * b ≤ k ∧ k < 3 + 50 * b + 50 then (fun j => if j = 10 then O else (fun j => if j = 8 then B else ar j) j) 10 (k - (3 + 50 * b)) else u1 k) = U at e4
      have hUv : ∀ k, U k = if 3 + 50 * b ≤ k ∧ k < 3 + 50 * b + 50 then O (k - (3 + 50 * b)) else u1 k := fun k => by rw [← hU]; rfl
      have hBm : BmS (ar 1) U (mvI a b) := by
        refine ⟨fun j hj => by rw [hUv, if_neg (by omega)]; exact v1 j hj, fun q k hq hk => ?_⟩
        rw [hUv]
        by_cases hqb : q = b
        · subst hqb
          rw [if_pos (by omega), show 3 + 50 * q + k - (3 + 50 * q) = k by omega, hOv k hk]
          unfold mvI
          rw [if_pos rfl]
        · rw [if_neg (by omega)]
          exact v2 q k hq hk hqb
      have r4 := mov_rel r ha hb hBm
      have h4 := h2.sA 1 (by omega) (by omega) U
      have e5 := X7_chg_L h4 (g := movG g a b) r4 48 0 xfuel 0 (by omega) (by unfold xfuel; omega)
      rw [Nat.zero_add, cntR, nI_0] at e5
      have ec : cnt 48 (fun q => seeG (movG g a b) q != (fun j => if j = 1 then U else (fun j => if j = 10 then O else (fun j => if j = 8 then B else ar j) j) j) 8 q) = cnt 48 fun c => seeG g c != seeG (movG g a b) c := cnt_congr (fun k hk => by
        show (seeG (movG g a b) k != B k) = _
        rw [hBv k hk, bne_comm])
      rw [ec] at e5
      obtain ⟨w6, e6, h6', f6⟩ := X7_done h4 (nI (cnt 48 fun c => seeG g c != seeG (movG g a b) c))
      have hle : (cnt 48 fun c => seeG g c != seeG (movG g a b) c) ≤ 48 := cnt_le _ _
      rw [ev]
      refine ⟨w6, upd F 17 _, _, ?_, h6', (((wA_fr (by omega) _).tr (wA_fr (by omega) _)).tr (wA_fr (by omega) _)).tr f6, fun k hk => by unfold upd; rw [if_neg hk], fun k hk h8 h10 => by
        show (if k = 1 then U else if k = 10 then O else if k = 8 then B else ar k) = ar k
        rw [if_neg hk, if_neg h10, if_neg h8], r4, fun _ => by unfold upd; rw [if_pos rfl]⟩
      refine e1.trans (e2.trans ?_)
      show (if nI b ≤ nI a then (f_X7_moves_L90 xfuel c (nI b) (-1) (nI a) (wA (wA w c 8 B) c 10 O)) else (f_X7_moves_L90 xfuel c (nI b) 1 (nI a) (wA (wA w c 8 B) c 10 O))) = _
      rw [e3, e4, e5, e6]
      show x_ret 0 w6 = x_ret (cdD (nI (cnt 48 fun c => seeG g c != seeG (movG g a b) c))) w6
      rw [cdD_nI (by omega)]
    · rw [if_pos hq', if_pos rfl, show moveG g (nI a) q = (-2, g) by simp [moveG, hp, hp']]
      exact MRun.stay h r (by decide) (by decide)
  · rw [if_pos hq, if_pos rfl, show moveG g p q = (-2, g) by simp [moveG, hp]]
    exact MRun.stay h r (by decide) (by decide)
end X7t
/-! the ring and the model's history -/
theorem RelS.cg {g : WL} {S S' : Nat → Int32} (r : RelS g S) (e : ∀ i, i < 303 → S' i = S i) : RelS g S' := by
  obtain ⟨r1, r2, r3, r4, r5⟩ := r
  refine ⟨(e 0 (by omega)).trans r1, (e 1 (by omega)).trans r2, (e 2 (by omega)).trans r3, r4, fun l hl => ?_⟩
  obtain ⟨b1, b2, b3, b4⟩ := r5 l hl
  refine ⟨(e _ (by omega)).trans b1, (e _ (by omega)).trans b2, b3, fun k hk => ⟨(e _ (by omega)).trans (b4 k hk).1, (b4 k hk).2⟩⟩
def HiR (nx sz : Nat) (G : Nat → WL) (F : Nat → Int32) (ar : Nat → Nat → Int32) : Prop := F 5 = nI sz ∧ ∀ j, j < sz → RelS (G ((nx + 8 - j) % 9)) (fun i => ar 4 (303 * (sz - 1 - j) + i))
theorem HiR.slot {nx sz : Nat} {G : Nat → WL} {F : Nat → Int32} {ar : Nat → Nat → Int32} (h : HiR nx sz G F ar) (hn : nx < 9) (hz : sz ≤ 8) (g' : WL) : HiR nx sz (fun i => if i = nx then g' else G i) F ar := by
  refine ⟨h.1, fun j hj => ?_⟩
  show RelS (if (nx + 8 - j) % 9 = nx then g' else G ((nx + 8 - j) % 9)) _
  rw [if_neg (by omega)]
  exact h.2 j hj
theorem HiR.keep {nx sz : Nat} {G : Nat → WL} {F F' : Nat → Int32} {ar ar' : Nat → Nat → Int32} (h : HiR nx sz G F ar) (hF : F' 5 = F 5) (ha : ar' 4 = ar 4) : HiR nx sz G F' ar' := ⟨hF.trans h.1, fun j hj => by rw [ha]; exact h.2 j hj⟩
theorem HiR.push {nx sz : Nat} {G : Nat → WL} {F F' : Nat → Int32} {ar ar' : Nat → Nat → Int32} (h : HiR nx sz G F ar) (hn : nx < 9) (hz : sz ≤ 8) (hr : RelS (G nx) (ar 2)) (h5 : F' 5 = nI (szUp sz)) (ha : ∀ i, i < 303 → ar' 4 (303 * (szUp sz - 1) + i) = ar 2 i)
    (hb : ∀ j i, j < szUp sz - 1 → i < 303 → ar' 4 (303 * j + i) = if sz = 8 then ar 4 (303 * (j + 1) + i) else ar 4 (303 * j + i)) : HiR (nxUp nx) (szUp sz) G F' ar' := by
  have e1 : nxUp nx = (nx + 1) % 9 := by unfold nxUp; split <;> omega
  refine ⟨h5, fun j hj => ?_⟩
  cases j with
  | zero =>
    rw [show (nxUp nx + 8 - 0) % 9 = nx by rw [e1]; omega]
    exact hr.cg (fun i hi => by rw [Nat.sub_zero]; exact ha i hi)
  | succ j =>
    have e2 : szUp sz = if sz < 8 then sz + 1 else 8 := rfl
    have hj' : j < sz := by rw [e2] at hj; split at hj <;> omega
    rw [show (nxUp nx + 8 - (j + 1)) % 9 = (nx + 8 - j) % 9 by rw [e1]; omega]
    refine (h.2 j hj').cg (fun i hi => ?_)
    by_cases h8 : sz = 8
    · have e3 : szUp sz = 8 := by rw [e2, if_neg (by omega)]
      rw [e3, hb _ i (by rw [e3]; omega) hi, if_pos h8, h8]
      congr 2
      omega
    · have e3 : szUp sz = sz + 1 := by rw [e2, if_pos (by omega)]
      rw [e3, hb _ i (by rw [e3]; omega) hi, if_neg h8]
      congr 2
      omega
theorem HiR.back {nx sz : Nat} {G : Nat → WL} {F F' : Nat → Int32} {ar ar' : Nat → Nat → Int32} (h : HiR nx (sz + 1) G F ar) (hn : nx < 9) (hz : sz + 1 ≤ 8) (h5 : F' 5 = nI sz) (ha : ar' 4 = ar 4) : HiR (nxDn nx) sz G F' ar' ∧ RelS (G (nxDn nx)) (fun i => ar 4 (303 * sz + i)) := by
  have e1 : nxDn nx = (nx + 8) % 9 := by unfold nxDn; split <;> omega
  refine ⟨⟨h5, fun j hj => ?_⟩, ?_⟩
  · rw [ha, show (nxDn nx + 8 - j) % 9 = (nx + 8 - (j + 1)) % 9 by rw [e1]; omega]
    have := h.2 (j + 1) (by omega)
    rw [show sz + 1 - 1 - (j + 1) = sz - 1 - j by omega] at this
    exact this
  · have := h.2 0 (by omega)
    rw [show sz + 1 - 1 - 0 = sz by omega, show (nx + 8 - 0) % 9 = nxDn nx by rw [e1]; omega] at this
    exact this
