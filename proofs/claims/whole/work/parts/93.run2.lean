/-! ===== runCommands on both sides ===== -/
def hA1U2 : String → Int32 := fun E => if E = IAE then 1 else if E = UOE then 2 else 0
theorem exe_or {t : Nat → Int32} {n : Nat} : ∀ (m k p : Nat) (g : WL), k + m ≤ 60 → (exeG t n m k p g).1 ≠ -1 → ∃ j, j < 60 ∧ (exeG t n m k p g).1 = nI j
  | 0, k, p, g, _, h => absurd rfl h
  | m + 1, k, p, g, hk, h => by
    unfold exeG at h ⊢
    by_cases hn : (cmdG g (rdG t n p).2.2.1 (rdG t n p).2.2.2).1 < 0
    · rw [if_pos hn]
      exact ⟨k, by omega, rfl⟩
    · rw [if_neg hn] at h ⊢
      exact exe_or m (k + 1) _ _ (by omega) h
section RO
variable {w : xW} {z : Nat} {γ : CG} {F : Nat → Int32} {ar : Nat → Nat → Int32}
/-- the class's half -/
theorem C_rc (C : Cls w z γ) :
    ((prs γ.tx γ.n 60 0 0).1 = false → ∃ w1, f_X6_runCommands z w = x_thr IAE w1 ∧ Cls w1 z ((γ.wx γ.sv (nI (prs γ.tx γ.n 60 0 0).2.1) γ.fc).wt γ.tx 0) ∧ Fr (clc z) w w1) ∧
    (∀ m, (prs γ.tx γ.n 60 0 0).1 = true → (prs γ.tx γ.n 60 0 0).2.2 = m → m ≤ 60 → chn γ.tx γ.n m 0 → ∃ g', EqW g' γ.g ∧
      ((exeG γ.tx γ.n m 0 0 γ.g).1 = -1 → ∃ w1, f_X6_runCommands z w = x_ret (nI m) w1 ∧ Cls w1 z (((γ.wh (nxUp γ.nx) (szUp γ.sz) (fun i => if i = γ.nx then g' else γ.G i)).wg (exeG γ.tx γ.n m 0 0 γ.g).2).wt γ.tx 0) ∧ Fr (clc z) w w1) ∧
      (∀ j, j < 60 → (exeG γ.tx γ.n m 0 0 γ.g).1 = nI j → ∃ w1 g'', f_X6_runCommands z w = x_thr UOE w1 ∧ EqW g'' γ.g ∧ Cls w1 z (((γ.wh γ.nx γ.sz (fun i => if i = γ.nx then g' else γ.G i)).wx γ.sv γ.ep (nI j)).wt γ.tx 0 |>.wg g'') ∧ Fr (clc z) w w1)) := by
  obtain ⟨p, kd, u, k, hT⟩ := C.2.2.2.2.2.1
  obtain ⟨w1, kd1, u1, k1, e1, q1, q2⟩ := X0_countCommands hT
  have C1 : Cls w1 z γ := C.onT q1 q2
  have f1 : Fr (clc z) w w1 := q2.mono (fun q hq => by unfold ctc at hq; exact ⟨by omega, by omega⟩)
  refine ⟨fun hf => ?_, fun m ht hm h60 hch => ?_⟩
  · rw [if_neg (by rw [hf]; decide)] at e1
    have C2 := C1.onX γ.sv (nI (prs γ.tx γ.n 60 0 0).2.1) γ.fc
    obtain ⟨w3, e3, C3, f3⟩ := C_clear C2
    have q3 : CtAt (xset w1 z (X6o z γ.sv (nI (prs γ.tx γ.n 60 0 0).2.1) γ.fc)) (z + 163) γ.tx γ.n (prs γ.tx γ.n 60 0 0).2.1 kd1 u1 k1 := q1.fr (Fr.set (A := fun q => q = z) rfl) (fun q hq ha => by unfold ctc at hq; omega)
    refine ⟨w3, ?_, C3, (f1.tr (Fr.set ⟨by omega, by omega⟩)).tr f3⟩
    simp only [f_X6_runCommands, C.r5, ob, oe, hT.o, if_true, e1, x_br, C1.r5, q1.g2]
    rw [C1.p7, ob]
    have e4 : x_getr (xset w1 z (X6o z γ.sv (nI (prs γ.tx γ.n 60 0 0).2.1) γ.fc)) z 6 5 = some (some (z + 163)) := C2.r5
    rw [e4, ob, oe, if_pos q3.o, e3, x_br]
    rfl
  · rw [if_pos ht, hm] at e1
    obtain ⟨w2, g', e2, C2, he, f2⟩ := C_prepare C1
    obtain ⟨w3, e3, C3, f3⟩ := C_exe C2 h60 hch
    obtain ⟨w4, e4, C4, f4⟩ := C_clear C3
    refine ⟨g', he, fun hok => ?_, fun j hj hbad => ?_⟩
    · obtain ⟨w5, e5, C5, f5⟩ := C_commit C4
      refine ⟨w5, ?_, C5, (((f1.tr f2).tr f3).tr f4).tr f5⟩
      have e3' : f_X6_carryOutUntilFailure z (nI m) w2 = x_ret (-1) w3 := by rw [← hok]; exact e3
      simp only [f_X6_runCommands, C.r5, ob, oe, hT.o, if_true, e1, x_br]
      rw [if_neg (show ¬ nI m = -1 from nI_nneg (by omega) (by decide)), C1.r1, ob, C1.r0, ob, oe, if_pos C1.H.o, e2, x_br, if_pos C2.o, e3', x_br, C3.r5, ob, oe]
      have o3 : x_isO w3 (z + 163) 0 = true := by
        obtain ⟨p, kd, u, k, hh⟩ := C3.2.2.2.2.2.1
        exact hh.o
      rw [if_pos o3, e4, x_br, if_pos rfl, C4.r1, ob, oe, if_pos C4.H.o, e5, x_br]
    · have C5 := C4.onX γ.sv γ.ep (nI j)
      obtain ⟨w6, g'', e6, q6, q7, q8, q9⟩ := X2_fetch C5.H C5.L (Or.inl (by omega))
      have C6 := C5.onG q6 q9
      have he2 : EqW g'' γ.g := by
        have h9 : EqW g'' (if γ.nx = γ.nx then g' else γ.G γ.nx) := q8
        rw [if_pos rfl] at h9
        exact h9.tr he
      refine ⟨w6, g'', ?_, he2, C6, (((f1.tr f2).tr f3).tr f4).tr ((Fr.set ⟨by omega, by omega⟩).tr (blk_clc q9))⟩
      have e3' : f_X6_carryOutUntilFailure z (nI m) w2 = x_ret (nI j) w3 := by rw [← hbad]; exact e3
      simp only [f_X6_runCommands, C.r5, ob, oe, hT.o, if_true, e1, x_br]
      rw [if_neg (show ¬ nI m = -1 from nI_nneg (by omega) (by decide)), C1.r1, ob, C1.r0, ob, oe, if_pos C1.H.o, e2, x_br, if_pos C2.o, e3', x_br, C3.r5, ob, oe]
      have o3 : x_isO w3 (z + 163) 0 = true := by
        obtain ⟨p, kd, u, k, hh⟩ := C3.2.2.2.2.2.1
        exact hh.o
      have p8 : x_put w4 z 6 8 (.int (nI j)) = some (xset w4 z (X6o z γ.sv γ.ep (nI j))) := C4.p8 (nI j)
      have e7 : x_getr (xset w4 z (X6o z γ.sv γ.ep (nI j))) z 6 1 = some (some (z + 15)) := C5.r1
      have e8 : x_getr (xset w4 z (X6o z γ.sv γ.ep (nI j))) z 6 0 = some (some (z + 1)) := C5.r0
      rw [if_pos o3, e4, x_br, if_neg (show ¬ nI j = -1 from nI_nneg (by omega) (by decide)), p8, ob, e7, ob, e8, ob, oe, if_pos C5.H.o, e6, x_br]
      rfl
/-- the model's half: it reads -/
theorem M_rc (R : Rel γ F ar) (hn : γ.n ≤ 60) {w' : xW} (M : MoAt w' (z + 168) F ar) :
    ∃ w2 F2 ar2, MoAt w2 (z + 168) F2 ar2 ∧ Fr (moc (z + 168)) w' w2 ∧ (∀ k, k ≠ 0 → k ≠ 13 → k ≠ 15 → k ≠ 18 → k ≠ 19 → k ≠ 20 → k ≠ 21 → F2 k = F k) ∧ F2 13 = 0 ∧ (∀ k, k ≠ 2 → k ≠ 6 → ar2 k = ar k) ∧ (∀ i, i < 303 → ar2 2 i = ar 1 i) ∧
      (((prs γ.tx γ.n 60 0 0).1 = false ∧ f_X7_runCommands (z + 168) w' = x_ret 0 w2 ∧ F2 15 = nI (prs γ.tx γ.n 60 0 0).2.1 ∧ F2 0 = 1) ∨
       ((prs γ.tx γ.n 60 0 0).1 = true ∧ f_X7_runCommands (z + 168) w' = f_X7_runCommands_L104 xfuel (z + 168) 0 w2 ∧ F2 0 = 0 ∧ F2 15 = F 15 ∧ F2 20 = nI (prs γ.tx γ.n 60 0 0).2.2 ∧ ∃ m, (prs γ.tx γ.n 60 0 0).2.2 = m + 1 ∧ TlR γ.tx γ.n (ar2 6) (m + 1) 0 0)) := by
  obtain ⟨r1, r2, r3, r4, r5, r6, r7, r8, r9, r10⟩ := id R
  obtain ⟨w1, ar1, e1, M1, f1, a1, a2⟩ := X7_remembers M
  have M2 := M1.sF (upd (upd F 0 0) 18 0)
  have M3 := M2.sF (upd (upd (upd F 0 0) 18 0) 19 (nI γ.n))
  have M4 := M3.sF (upd (upd (upd (upd F 0 0) 18 0) 19 (nI γ.n)) 13 0)
  have M5 := M4.sF (upd (upd (upd (upd (upd F 0 0) 18 0) 19 (nI γ.n)) 13 0) 20 0)
  have M6 := M5.sF (upd (upd (upd (upd (upd (upd F 0 0) 18 0) 19 (nI γ.n)) 13 0) 20 0) 21 0)
  have u13 : upd (upd F 0 0) 18 0 13 = nI γ.n := by unfold upd; rw [if_neg (by omega), if_neg (by omega)]; exact r5
  have k19 : upd (upd (upd (upd (upd (upd F 0 0) 18 0) 19 (nI γ.n)) 13 0) 20 0) 21 0 19 = nI γ.n := by unfold upd; rw [if_neg (by omega), if_neg (by omega), if_neg (by omega), if_pos rfl]
  have k20 : upd (upd (upd (upd (upd (upd F 0 0) 18 0) 19 (nI γ.n)) 13 0) 20 0) 21 0 20 = nI 0 := by unfold upd; rw [if_neg (by omega), if_pos rfl, nI_0]
  have k18 : upd (upd (upd (upd (upd (upd F 0 0) 18 0) 19 (nI γ.n)) 13 0) 20 0) 21 0 18 = nI 0 := by unfold upd; rw [if_neg (by omega), if_neg (by omega), if_neg (by omega), if_neg (by omega), if_pos rfl, nI_0]
  have k21 : upd (upd (upd (upd (upd (upd F 0 0) 18 0) 19 (nI γ.n)) 13 0) 20 0) 21 0 21 = 0 := by unfold upd; rw [if_pos rfl]
  have k13 : upd (upd (upd (upd (upd (upd F 0 0) 18 0) 19 (nI γ.n)) 13 0) 20 0) 21 0 13 = 0 := by unfold upd; rw [if_neg (by omega), if_neg (by omega), if_pos rfl]
  have k0 : upd (upd (upd (upd (upd (upd F 0 0) 18 0) 19 (nI γ.n)) 13 0) 20 0) 21 0 0 = 0 := by unfold upd; rw [if_neg (by omega), if_neg (by omega), if_neg (by omega), if_neg (by omega), if_neg (by omega), if_pos rfl]
  have kk : ∀ k, k ≠ 0 → k ≠ 13 → k ≠ 18 → k ≠ 19 → k ≠ 20 → k ≠ 21 → upd (upd (upd (upd (upd (upd F 0 0) 18 0) 19 (nI γ.n)) 13 0) 20 0) 21 0 k = F k := fun k c0 c13 c18 c19 c20 c21 => by unfold upd; rw [if_neg c21, if_neg c20, if_neg c13, if_neg c19, if_neg c18, if_neg c0]
  obtain ⟨w7, e7, F7, ar7, M7, f7, b1, b2, b3, b4, b5, b6, b7⟩ := X7_readsOne (e := γ.n) (cm := 0) (p := 0) ⟨k19, k20, hn, by omega, Nat.zero_le _⟩ M6 k18 k21
  have ht : ∀ i, i < γ.n → ar1 5 i = γ.tx i := fun i hi => by rw [a1 5 (by omega)]; exact r6 i hi
  have egt : rdG (ar1 5) γ.n = rdG γ.tx γ.n := rdG_cg ht
  rw [egt] at b1 b3 b7
  obtain ⟨w8, ⟨F8, ar8, M8, f8, c1, c2, c3⟩, -⟩ := X7_read_L (c := z + 168) (t := γ.tx) hn 60 xfuel 0 0 w7 F7 ar7 (by unfold xfuel; omega) (by omega) (by omega) (Nat.zero_le _) (by omega) (fun i hi => by rw [b5 5 (by omega)]; exact ht i hi) M7 b1 (by rw [b4 19 (by omega) (by omega) (by omega)]; exact k19) b2 b3 b7
  have st1 : f_X7_runCommands (z + 168) w' = f_X7_runCommands_L36 xfuel (z + 168) w7 := by
    simp only [f_X7_runCommands]
    rw [if_pos M.o, e1, x_br, M1.p18, ob, M2.g13, ob, u13, M2.p19, ob, M3.p13, ob, M4.p20, ob, M5.p21, ob, if_pos M6.o, e7, x_br]
  have ck : ∀ k, k ≠ 0 → k ≠ 13 → k ≠ 15 → k ≠ 18 → k ≠ 19 → k ≠ 20 → k ≠ 21 → F8 k = F k := fun k x0 x13 x15 x18 x19 x20 x21 => by
    rw [c1 k x0 x15 x18 x20 x21, b4 k x18 x20 x21, kk k x0 x13 x18 x19 x20 x21]
  have fall : Fr (moc (z + 168)) w' w8 := ((((((f1.tr (wF_fr _)).tr (wF_fr _)).tr (wF_fr _)).tr (wF_fr _)).tr (wF_fr _)).tr f7).tr f8
  refine ⟨w8, F8, ar8, M8, fall, ck, ?_, fun k x2 x6 => ?_, fun i hi => ?_, ?_⟩
  · rw [c1 13 (by omega) (by omega) (by omega) (by omega) (by omega), b4 13 (by omega) (by omega) (by omega), k13]
  · rw [c2 k x6, b5 k x6, a1 k x2]
  · rw [c2 2 (by omega), b5 2 (by omega)]
    exact a2 i hi
  · rw [st1]
    rcases c3 with ⟨d1, d2, d3, d4⟩ | ⟨d1, d2, d3, d4, d5, m, d6, d7⟩
    · exact Or.inl ⟨d1, d2, d3, d4⟩
    · refine Or.inr ⟨d1, d2, ?_, ?_, d5, m, by omega, d7⟩
      · rw [d3, b4 0 (by omega) (by omega) (by omega), k0]
      · rw [d4, b4 15 (by omega) (by omega) (by omega), kk 15 (by omega) (by omega) (by omega) (by omega) (by omega) (by omega)]
theorem S_runCommands (C : Cls w z γ) (R : Rel γ F ar) : Sbs z w (f_X6_runCommands z w) (f_X7_runCommands (z + 168)) hA1U2 F ar := by
  obtain ⟨p0, kd0, u0, k0, hT⟩ := C.2.2.2.2.2.1
  have hn := hT.2.2.2.1
  have hN := C.H.2.2.1
  have hZ := C.H.2.2.2
  obtain ⟨r1, r2, r3, r4, r5, r6, r7, r8, r9, r10⟩ := id R
  obtain ⟨cA, cB⟩ := C_rc C
  cases hP : (prs γ.tx γ.n 60 0 0).1 with
  | false =>
    obtain ⟨w1, e1, C1, f1⟩ := cA hP
    refine ⟨.inr IAE, w1, _, 1, e1, f1, C1, fun E hE => (by cases hE; decide), fun v hv => (by cases hv), fun w' M => ?_⟩
    obtain ⟨w2, F2, ar2, M2, f2, a1, a2, a3, a4, a5⟩ := M_rc R hn M
    rcases a5 with ⟨b1, b2, b3, b4⟩ | ⟨b1, -⟩
    · refine ⟨w2, F2, ar2, 0, b2, M2, f2, ⟨by rw [a3 1 (by omega) (by omega)]; exact r1, r2.keep (a1 5 (by omega) (by omega) (by omega) (by omega) (by omega) (by omega) (by omega)) (a3 4 (by omega) (by omega)), (a1 6 (by omega) (by omega) (by omega) (by omega) (by omega) (by omega) (by omega)).trans r3, by rw [a3 3 (by omega) (by omega)]; exact r4, by rw [a2]; rfl, fun i hi => absurd hi (Nat.not_lt_zero i), (a1 14 (by omega) (by omega) (by omega) (by omega) (by omega) (by omega) (by omega)).trans r7, by rw [a3 7 (by omega) (by omega)]; exact r8, b3, (a1 16 (by omega) (by omega) (by omega) (by omega) (by omega) (by omega) (by omega)).trans r10⟩, b4, fun v hv => (by cases hv)⟩
    · rw [hP] at b1; cases b1
  | true =>
    obtain ⟨m, hm, hch⟩ := prs_chn 60 0 0 (Nat.zero_le _) hP
    rw [Nat.zero_add] at hm
    have hcnt := prs_cnt (t := γ.tx) (n := γ.n) 60 0 0
    have h60 : m + 1 ≤ 60 := by omega
    obtain ⟨g', he, cC, cD⟩ := cB (m + 1) hP hm h60 hch
    -- the model's half, run on
    have mm : ∀ w', MoAt w' (z + 168) F ar → ∃ w3 F3 ar3, MoAt w3 (z + 168) F3 ar3 ∧ Fr (moc (z + 168)) w' w3 ∧ (∀ k, k = 5 ∨ k = 6 ∨ k = 14 ∨ k = 15 ∨ k = 16 → F3 k = F k) ∧ F3 13 = 0 ∧ F3 0 = 0 ∧ (∀ k, k = 3 ∨ k = 4 ∨ k = 5 ∨ k = 7 → ar3 k = ar k) ∧ (∀ i, i < 303 → ar3 2 i = ar 1 i) ∧
        (((exeG γ.tx γ.n (m + 1) 0 0 γ.g).1 = -1 ∧ f_X7_runCommands (z + 168) w' = f_X7_changed (z + 168) (nI (m + 1)) w3 ∧ RelS (exeG γ.tx γ.n (m + 1) 0 0 γ.g).2 (ar3 1)) ∨
         ∃ j, j < 60 ∧ (exeG γ.tx γ.n (m + 1) 0 0 γ.g).1 = nI j ∧ f_X7_runCommands (z + 168) w' = f_X7_runCommands_L125 xfuel (z + 168) (nI j) 0 w3) := fun w' M => by
      obtain ⟨w2, F2, ar2, M2, f2, a1, a2, a3, a4, a5⟩ := M_rc R hn M
      rcases a5 with ⟨b1, -⟩ | ⟨b1, b2, b3, b4, b5, m', b6, b7⟩
      · rw [hP] at b1; cases b1
      · have hmm : m' = m := by omega
        subst hmm
        obtain ⟨w3, F3, ar3, M3, f3, c1, c2, c3⟩ := X7_exe_L (c := z + 168) (t := γ.tx) (e := γ.n) (m' + 1) 0 0 xfuel w2 F2 ar2 γ.g (by unfold xfuel; omega) (by omega) M2 (by rw [a3 1 (by omega) (by omega)]; exact r1) C.i (by rw [b5, b6, Nat.zero_add]) b7 hch
        rw [nI_0, Nat.zero_add] at c3
        refine ⟨w3, F3, ar3, M3, f2.tr f3, fun k hk => ?_, (c1 13 (by omega)).trans a2, (c1 0 (by omega)).trans b3, fun k hk => (c2 k (by omega) (by omega) (by omega)).trans (a3 k (by omega) (by omega)), fun i hi => by rw [c2 2 (by omega) (by omega) (by omega)]; exact a4 i hi, ?_⟩
        · rw [c1 k (by omega)]
          by_cases h15 : k = 15
          · rw [h15]; exact b4
          · exact a1 k (by omega) (by omega) h15 (by omega) (by omega) (by omega) (by omega)
        · rcases c3 with ⟨d1, d2, d3⟩ | ⟨j, d1, d2, d3⟩
          · exact Or.inl ⟨d1, b2.trans d2, d3⟩
          · exact Or.inr ⟨j, d1, d2, b2.trans d3⟩
    by_cases hok : (exeG γ.tx γ.n (m + 1) 0 0 γ.g).1 = -1
    · obtain ⟨w1, e1, C1, f1⟩ := cC hok
      refine ⟨.inl (nI (m + 1)), w1, _, 0, e1, f1, C1, fun E hE => (by cases hE), fun _ _ => rfl, fun w' M => ?_⟩
      obtain ⟨w3, F3, ar3, M3, f3, a1, a2, a2', a3, a4, a5⟩ := mm w' M
      rcases a5 with ⟨b1, b2, b3⟩ | ⟨j, b0, b1, -⟩
      · obtain ⟨w4, F4, ar4, e4, M4, f4, c1, c2, c3, c4, c5⟩ := X7_changed M3 (kp := γ.sz) (by rw [a1 5 (by omega)]; exact r2.1) hZ (nI (m + 1))
        have hH := (r2.slot hN hZ g').keep (F' := F3) (ar' := ar3) (a1 5 (by omega)) (a3 4 (by omega))
        have hP2 := hH.push hN hZ (by
          show RelS (if γ.nx = γ.nx then g' else γ.G γ.nx) (ar3 2)
          rw [if_pos rfl]
          exact (r1.eqw he.sy).cg a4) c2 c4 c5
        refine ⟨w4, F4, ar4, nI (m + 1), b2.trans e4, M4, f3.tr f4, ⟨by rw [c3 1 (by omega)]; exact b3, hP2, (c1 6 (by omega)).trans ((a1 6 (by omega)).trans r3), by rw [c3 3 (by omega), a3 3 (by omega)]; exact r4, ((c1 13 (by omega)).trans a2).trans nI_0.symm, fun i hi => absurd hi (Nat.not_lt_zero i), (c1 14 (by omega)).trans ((a1 14 (by omega)).trans r7), by rw [c3 7 (by omega), a3 7 (by omega)]; exact r8, (c1 15 (by omega)).trans ((a1 15 (by omega)).trans r9), (c1 16 (by omega)).trans ((a1 16 (by omega)).trans r10)⟩, (c1 0 (by omega)).trans a2', fun v hv => (by cases hv; rfl)⟩
      · rw [hok] at b1
        exact absurd b1.symm (nI_nneg (by omega) (by decide))
    · -- a command failed
      obtain ⟨j, hj, hb⟩ : ∃ j, j < 60 ∧ (exeG γ.tx γ.n (m + 1) 0 0 γ.g).1 = nI j := exe_or (m + 1) 0 0 γ.g (by omega) hok
      obtain ⟨w1, g'', e1, he2, C1, f1⟩ := cD j hj hb
      refine ⟨.inr UOE, w1, _, 2, e1, f1, C1, fun E hE => (by cases hE; decide), fun v hv => (by cases hv), fun w' M => ?_⟩
      obtain ⟨w3, F3, ar3, M3, f3, a1, a2, a2', a3, a4, a5⟩ := mm w' M
      rcases a5 with ⟨b1, -⟩ | ⟨j', b0, b1, b2⟩
      · exact absurd b1 hok
      · have hjj : j' = j := (nI_eq (by omega) (by omega)).mp (b1.symm.trans hb)
        subst hjj
        have e3 := X7_bak_L M3 (nI j') 303 0 xfuel (ar3 1) (by omega) (by unfold xfuel; omega)
        rw [wA_self M3 (by omega) (by omega), fo_R, fo_al (ar3 2) (ar3 1) 303, nI_0] at e3
        have M4 := M3.sA 1 (by omega) (by omega) (fun q => if q < 303 then ar3 2 q else ar3 1 q)
        have M5 := M4.sF (upd F3 16 (nI j'))
        obtain ⟨w6, e6, M6, f6⟩ := X7_fails M5 2
        have u : ∀ k, k ≠ 0 → k ≠ 16 → upd (upd F3 16 (nI j')) 0 2 k = F3 k := fun k k0 k16 => by unfold upd; rw [if_neg k0, if_neg k16]
        have hH := (r2.slot hN hZ g').keep (F' := upd (upd F3 16 (nI j')) 0 2) (ar' := fun k => if k = 1 then (fun q => if q < 303 then ar3 2 q else ar3 1 q) else ar3 k) ((u 5 (by omega) (by omega)).trans (a1 5 (by omega))) (a3 4 (by omega))
        refine ⟨w6, _, _, 0, ?_, M6, ((f3.tr (wA_fr (by omega) _)).tr (wF_fr _)).tr f6, ⟨(r1.eqw he2.sy).cg (fun i hi => ?_), hH, (u 6 (by omega) (by omega)).trans ((a1 6 (by omega)).trans r3), by rw [show (fun k => if k = 1 then (fun q => if q < 303 then ar3 2 q else ar3 1 q) else ar3 k) 3 = ar3 3 from rfl, a3 3 (by omega)]; exact r4, ((u 13 (by omega) (by omega)).trans a2).trans nI_0.symm, fun i hi => absurd hi (Nat.not_lt_zero i), (u 14 (by omega) (by omega)).trans ((a1 14 (by omega)).trans r7), by rw [show (fun k => if k = 1 then (fun q => if q < 303 then ar3 2 q else ar3 1 q) else ar3 k) 7 = ar3 7 from rfl, a3 7 (by omega)]; exact r8, (u 15 (by omega) (by omega)).trans ((a1 15 (by omega)).trans r9), ?_⟩, ?_, fun v hv => (by cases hv)⟩
        · refine b2.trans (e3.trans ?_)
          show (x_put _ (z + 168) 7 16 (.int (nI j'))).bind _ = _
          rw [M4.p16, ob, if_pos M5.o, e6, x_br]
        · show (if i < 303 then ar3 2 i else ar3 1 i) = ar 1 i
          rw [if_pos hi]
          exact a4 i hi
        · unfold upd; rw [if_neg (by omega), if_pos rfl]; rfl
        · unfold upd; rw [if_pos rfl]
end RO
