/-! ===== calls that change, on both sides ===== -/
section CH
variable {w : xW} {z c : Nat} {γ : CG} {F : Nat → Int32} {ar : Nat → Nat → Int32}
theorem blk_clc {w1 w2 : xW} (h : Fr (blk (z + 1)) w1 w2) : Fr (clc z) w1 w2 := h.mono (fun q hq => by unfold blk at hq; exact ⟨by omega, by omega⟩)
theorem ring_clc {w1 w2 : xW} (h : Fr (ring (z + 15)) w1 w2) : Fr (clc z) w1 w2 := h.mono (fun q hq => by unfold ring at hq; exact ⟨by omega, by omega⟩)
theorem C_prepare (C : Cls w z γ) : ∃ w1 g', f_X2_prepare (z + 15) (some (z + 1)) w = x_ret () w1 ∧ Cls w1 z (γ.wh γ.nx γ.sz (fun i => if i = γ.nx then g' else γ.G i)) ∧ EqW g' γ.g ∧ Fr (clc z) w w1 := by
  obtain ⟨w1, g', e, q1, q2, q3⟩ := X2_prepare C.H C.L (Or.inl (by omega))
  exact ⟨w1, g', e, C.onH q1 q3, q2, ring_clc q3⟩
theorem C_commit (C : Cls w z γ) : ∃ w1, f_X2_commit (z + 15) w = x_ret () w1 ∧ Cls w1 z (γ.wh (nxUp γ.nx) (szUp γ.sz) γ.G) ∧ Fr (clc z) w w1 := by
  obtain ⟨w1, e, q1, q2⟩ := X2_commit C.H
  have f1 : Fr (ring (z + 15)) w w1 := q2.mono (fun q hq => by rw [hq]; exact ⟨by omega, by omega⟩)
  exact ⟨w1, e, C.onH q1 f1, ring_clc f1⟩
theorem C_run (C : Cls w z γ) {f : xO Int32} {r : Int32 × WL} (h : Run (z + 1) w f r) : ∃ w', f = x_ret r.1 w' ∧ Cls w' z (γ.wg r.2) ∧ Fr (clc z) w w' := by
  obtain ⟨w', e, q1, q2⟩ := h
  exact ⟨w', e, C.onG q1 q2, blk_clc q2⟩
/-- the class moves a layer -/
theorem C_move (C : Cls w z γ) (p q : Int32) : ∃ w', f_X6_moveAndCompare z p q w = x_ret (moveG γ.g p q).1 w' ∧ Cls w' z (γ.wg (moveG γ.g p q).2) ∧ Fr (clc z) w w' := by
  have h6 := C.L.n6
  rcases posG_or γ.g h6 p with ⟨a, ha, rfl, hp⟩ | ⟨hq, hp⟩
  · rcases posG_or γ.g h6 q with ⟨b, hb, rfl, hp'⟩ | ⟨hq', hp'⟩
    · have ev : moveG γ.g (nI a) (nI b) = (nI (cnt 48 fun c => seeG γ.g c != seeG (movG γ.g a b) c), movG γ.g a b) := by simp [moveG, hp, hp']
      obtain ⟨f0, hf, hbr⟩ := C.2.2.2.2.1
      obtain ⟨w1, f1, e1, q1, q2, q3, q4⟩ := X1_flattenB hf C.L (Or.inl (by omega))
      have C1 := C.onF q1 (by rw [q3]; exact hbr) q4
      obtain ⟨w2, e2, r1, r2⟩ := X4_shift C1.L ha hb
      have C2 := C1.onG r1 r2
      have q1' : FwAt w2 (z + 157) f1 := q1.fr r2 (fun q hq ha => by unfold fwc at hq; unfold blk at ha; omega)
      have e3 := X1_countCellsUnlike q1' r1
      have e4 : cnt 48 (fun c => f1.T c != seeG (movG γ.g a b) c) = cnt 48 fun c => seeG γ.g c != seeG (movG γ.g a b) c := cnt_congr (fun k hk => by rw [q2 k hk])
      rw [e4] at e3
      refine ⟨w2, ?_, by rw [ev]; exact C2, (fw_clc q4).tr (blk_clc r2)⟩
      rw [ev]
      simp only [f_X6_moveAndCompare, C.r0, ob, oe, C.L.o, if_true, X4_at C.L ha, X4_at C.L hb, x_br, C.r4, hf.o, e1, C1.r0, C1.L.o]
      rw [e2, x_br, C2.r4, ob, C2.r0, ob, oe, if_pos q1'.o, e3, x_br]
    · refine ⟨w, ?_, by rw [show moveG γ.g (nI a) q = (-2, γ.g) by simp [moveG, hp, hp']]; exact C, Fr.rf⟩
      rw [show moveG γ.g (nI a) q = (-2, γ.g) by simp [moveG, hp, hp']]
      simp only [f_X6_moveAndCompare, C.r0, ob, oe, C.L.o, if_true, X4_at C.L ha, X4_at_no C.L hq', x_br, oen]
  · refine ⟨w, ?_, by rw [show moveG γ.g p q = (-2, γ.g) by simp [moveG, hp]]; exact C, Fr.rf⟩
    rw [show moveG γ.g p q = (-2, γ.g) by simp [moveG, hp]]
    simp only [f_X6_moveAndCompare, C.r0, ob, oe, C.L.o, if_true, X4_at_no C.L hq, x_br, oen]
/-- the model's frame around a change -/
def MopE (c : Nat) (fo : xW → xO Int32) (w0 : xW) : xO Int32 := if x_isO w0 c 7 = true then (x_bind (f_X7_remembers c w0) fun _ w1 => if x_isO w1 c 7 = true then (x_bind (fo w1) fun r5 w4 => if x_isO w4 c 7 = true then (x_bind (f_X7_ends c r5 w4) fun r8 w7 => x_ret r8 w7) else none) else none) else none
theorem Rel.g' {g' : WL} {nx sz : Nat} {G : Nat → WL} {F' : Nat → Int32} {ar' : Nat → Nat → Int32} (R : Rel γ F ar) (h1 : RelS g' (ar' 1)) (h2 : HiR nx sz G F' ar') (hF : ∀ k, k = 6 ∨ (13 ≤ k ∧ k ≤ 16) → F' k = F k) (ha : ∀ k, k = 3 ∨ k = 5 ∨ k = 7 → ar' k = ar k) : Rel ((γ.wh nx sz G).wg g') F' ar' := by
  obtain ⟨-, -, r3, r4, r5, r6, r7, r8, r9, r10⟩ := R
  exact ⟨h1, h2, (hF 6 (by omega)).trans r3, by rw [ha 3 (by omega)]; exact r4, (hF 13 (by omega)).trans r5, fun i hi => by rw [ha 5 (by omega)]; exact r6 i hi, (hF 14 (by omega)).trans r7, fun i hi => by rw [ha 7 (by omega)]; exact r8 i hi, (hF 15 (by omega)).trans r9, (hF 16 (by omega)).trans r10⟩
theorem M_chg {cd : Int32 → Int32} {l : List Int32} {r : Int32 × WL} {fo : xW → xO Int32} {w' : xW} (M : MoAt w' c F ar) (R : Rel γ F ar) (hn : γ.nx < 9) (hz : γ.sz ≤ 8) {g' : WL} (he : EqW g' γ.g) (hfo : ∀ w1 F1 ar1, MoAt w1 c F1 ar1 → RelS γ.g (ar1 1) → MRun cd c w1 F1 ar1 (fo w1) r)
    (hv : Okv l r.1) (hl : ∀ x, x ∈ l → x < 0) (h1 : ∀ x, x ∈ l → cd x ≠ 0) (h2 : ∀ k, k < 2 ^ 31 → cd (nI k) = 0) :
    ∃ w2 F' ar' b, MopE c fo w' = x_ret b w2 ∧ MoAt w2 c F' ar' ∧ Fr (moc c) w' w2 ∧ F' 0 = cd r.1 ∧
      (r.1 < 0 → Rel ((γ.wh γ.nx γ.sz (fun i => if i = γ.nx then g' else γ.G i)).wg r.2) F' ar') ∧
      (¬ r.1 < 0 → b = r.1 ∧ Rel ((γ.wh (nxUp γ.nx) (szUp γ.sz) (fun i => if i = γ.nx then g' else γ.G i)).wg r.2) F' ar') := by
  obtain ⟨w1, ar1, e1, M1, f1, a1, a2⟩ := X7_remembers M
  have rg : RelS γ.g (ar1 1) := by rw [a1 1 (by omega)]; exact R.1
  obtain ⟨w2, F2, ar2, e2, M2, f2, b1, b2, b3, b4⟩ := hfo w1 _ ar1 M1 rg
  have hH : HiR γ.nx γ.sz (fun i => if i = γ.nx then g' else γ.G i) F ar := R.2.1.slot hn hz g'
  have F2k : ∀ k, k ≠ 0 → k ≠ 17 → F2 k = F k := fun k k0 k17 => by
    rw [b1 k k17]
    unfold upd
    rw [if_neg k0]
  have ar2k : ∀ k, k ≠ 1 → k ≠ 2 → k ≠ 8 → k ≠ 10 → ar2 k = ar k := fun k k1 k2 k8 k10 => (b2 k k1 k8 k10).trans (a1 k k2)
  have st1 : MopE c fo w' = x_bind (f_X7_ends c (cd r.1) w2) fun r8 w7 => x_ret r8 w7 := by
    unfold MopE
    rw [if_pos M.o, e1, x_br, if_pos M1.o, e2, x_br, if_pos M2.o]
  by_cases h0 : cd r.1 = 0
  · have hnn : ¬ r.1 < 0 := (cd_iff hv hl h1 h2).mp h0
    obtain ⟨w3, F3, ar3, e3, M3, f3, c1, c2, c3, c4, c5⟩ := X7_changed M2 (kp := γ.sz) (by rw [F2k 5 (by omega) (by omega)]; exact R.2.1.1) hz (F2 17)
    refine ⟨w3, F3, ar3, F2 17, ?_, M3, (f1.tr f2).tr f3, ?_, fun hc => absurd hc hnn, fun _ => ⟨b4 h0, ?_⟩⟩
    · rw [st1]
      unfold f_X7_ends
      rw [if_pos h0, M2.g17, ob, if_pos M2.o, e3, x_br, x_br]
    · rw [h0, c1 0 (by omega), b1 0 (by omega)]
      unfold upd
      rw [if_pos rfl]
    · refine R.g' (by rw [c3 1 (by omega)]; exact b3) ?_ (fun k hk => (c1 k (by omega)).trans (F2k k (by omega) (by omega))) (fun k hk => (c3 k (by omega)).trans (ar2k k (by omega) (by omega) (by omega) (by omega)))
      refine (hH.keep (F' := F2) (ar' := ar2) (F2k 5 (by omega) (by omega)) (ar2k 4 (by omega) (by omega) (by omega) (by omega))).push hn hz ?_ c2 c4 c5
      show RelS (if γ.nx = γ.nx then g' else γ.G γ.nx) (ar2 2)
      rw [if_pos rfl, b2 2 (by omega) (by omega) (by omega)]
      exact (R.1.eqw he.sy).cg a2
  · have hneg : r.1 < 0 := Classical.byContradiction (fun hc => h0 ((cd_iff hv hl h1 h2).mpr hc))
    obtain ⟨w3, e3, M3, f3⟩ := X7_fails M2 (cd r.1)
    refine ⟨w3, _, ar2, 0, ?_, M3, (f1.tr f2).tr f3, by unfold upd; rw [if_pos rfl], fun _ => ?_, fun hc => absurd hneg hc⟩
    · rw [st1]
      unfold f_X7_ends
      rw [if_neg h0, if_pos M2.o, e3, x_br, x_br]
    · have u : ∀ k, k ≠ 0 → k ≠ 17 → upd F2 0 (cd r.1) k = F k := fun k k0 k17 => by
        unfold upd
        rw [if_neg k0]
        exact F2k k k0 k17
      exact R.g' b3 (hH.keep (u 5 (by omega) (by omega)) (ar2k 4 (by omega) (by omega) (by omega) (by omega))) (fun k hk => u k (by omega) (by omega)) (fun k hk => ar2k k (by omega) (by omega) (by omega) (by omega))
/-- the class's frame around a change: what comes behind prepare -/
def CopE (z : Nat) (K : xW → xO Int32) (w0 : xW) : xO Int32 := (x_getr w0 z 6 1).bind fun v1 => (x_getr w0 z 6 0).bind fun v2 => (v1).elim none fun a3 => if x_isO w0 a3 2 = true then (x_bind (f_X2_prepare a3 v2 w0) fun _ w4 => K w4) else none
/-- its end: the call counts -/
def CmE (z : Nat) (r10 : Int32) (w9 : xW) : xO Int32 := (x_getr w9 z 6 1).bind fun v14 => (v14).elim none fun a15 => if x_isO w9 a15 2 = true then (x_bind (f_X2_commit a15 w9) fun _ w16 => x_ret r10 w16) else none
theorem S_chg {cd : Int32 → Int32} {l : List Int32} {r : Int32 × WL} {fo : xW → xO Int32} {K : xW → xO Int32} {TL : Int32 → xW → xO Int32} {E : Int32 → String} {H : String → Int32} (C : Cls w z γ) (R : Rel γ F ar) (hfo : ∀ w1 F1 ar1, MoAt w1 (z + 168) F1 ar1 → RelS γ.g (ar1 1) → MRun cd (z + 168) w1 F1 ar1 (fo w1) r)
    (hv : Okv l r.1) (hl : ∀ x, x ∈ l → x < 0) (h1 : ∀ x, x ∈ l → cd x ≠ 0) (h2 : ∀ k, k < 2 ^ 31 → cd (nI k) = 0)
    (hK : ∀ w1 γ1, Cls w1 z γ1 → γ1.g = γ.g → ∃ w2, K w1 = TL r.1 w2 ∧ Cls w2 z (γ1.wg r.2) ∧ Fr (clc z) w1 w2)
    (hT : ∀ v w, v ∈ l → TL v w = x_thr (E v) w ∧ H (E v) = cd v) (hT2 : ∀ v w, v ∉ l → TL v w = CmE z v w) : Sbs z w (CopE z K w) (MopE (z + 168) fo) H F ar := by
  obtain ⟨w1, g', e1, C1, he, f1⟩ := C_prepare C
  obtain ⟨w2, e2, C2, f2⟩ := hK w1 _ C1 rfl
  have st1 : CopE z K w = TL r.1 w2 := by
    unfold CopE
    rw [C.r1, ob, C.r0, ob, oe, if_pos C.H.o, e1, x_br, e2]
  have hn := C.H.2.2.1
  have hz := C.H.2.2.2
  rcases hv.neg hl with ⟨k1, k2⟩ | ⟨k1, k2⟩
  · obtain ⟨t1, t2⟩ := hT r.1 w2 k2
    refine ⟨.inr (E r.1), w2, _, cd r.1, ?_, f1.tr f2, C2, fun E' hE => (by cases hE; exact ⟨t2, h1 _ k2⟩), fun v hv => (by cases hv), fun w' M => ?_⟩
    · rw [st1, t1]; rfl
    · obtain ⟨w3, F', ar', b, e3, M3, f3, c1, c2, c3⟩ := M_chg M R hn hz he hfo hv hl h1 h2
      exact ⟨w3, F', ar', b, e3, M3, f3, c2 k1, c1, fun v hv => (by cases hv)⟩
  · obtain ⟨w3, e3, C3, f3⟩ := C_commit C2
    refine ⟨.inl r.1, w3, _, 0, ?_, (f1.tr f2).tr f3, C3, fun E' hE => (by cases hE), fun _ _ => rfl, fun w' M => ?_⟩
    · rw [st1, hT2 _ _ k2]
      unfold CmE
      rw [C2.r1, ob, oe, if_pos C2.H.o, e3, x_br]
      rfl
    · obtain ⟨w3, F', ar', b, e3, M3, f3, c1, c2, c3⟩ := M_chg M R hn hz he hfo hv hl h1 h2
      obtain ⟨d1, d2⟩ := c3 k1
      refine ⟨w3, F', ar', b, e3, M3, f3, d2, ?_, fun v hv => (by cases hv; exact d1.symm)⟩
      rw [c1]
      exact (cd_iff hv hl h1 h2).mpr k1
end CH
