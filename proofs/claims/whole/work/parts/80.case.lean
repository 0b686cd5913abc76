/-! ===== the law's cases, by their shapes ===== -/
section JJ
variable {w : xW} {z : Nat} {γ : CG} {F : Nat → Int32} {ar : Nat → Nat → Int32} {v : Nat → Int64}
/-- the law's call of the class -/
def LO (f : xO Int32) (H : String → xW → xO Int32) (z o : Nat) (w : xW) : xO Int32 := (some z).elim none fun a1 => if x_isO w a1 6 = true then (x_try f (fun r3 w2 => (some o).elim none fun a5 => (x_lst w2 a5 0 (Int32.toInt64 r3)).bind fun w6 => x_ret 0 w6) H) else none
/-- the law's comparison behind it -/
def JT (K : xW → xO Int32) (fm : xW → xO Int32) (c o : Nat) (r11 : Int32) (w10 : xW) : xO Int32 := if x_isO w10 c 7 = true then (x_bind (fm w10) fun r14 w13 => if x_isO w13 c 7 = true then (x_bind (f_X7_thrown c w13) fun r17 w16 => (if r17 = r11 then ((if r11 = 0 then ((x_lld w16 o 0).bind fun v21 => (if (lg_cmp v21 (Int32.toInt64 r14)) = 0 then (K w16) else (x_ret 0 w16))) else (K w16))) else (x_ret 0 w16))) else none) else none
theorem J_int {f : xO Int32} {fm : xW → xO Int32} {H : String → Int32} {Hh : String → xW → xO Int32} (hC : Cls w z γ) (hO : OuL w (z + 179) v) (hM : MoAt w (z + 168) F ar) (s : Sbs z w f fm H F ar) (hh : ∀ E w, H E ≠ 0 → Hh E w = x_ret (H E) w) (K : xW → xO Int32) :
    ∃ w', x_bind (LO f Hh z (z + 179) w) (JT K fm (z + 168) (z + 179)) = K w' ∧ Inv z w' := by
  obtain ⟨r, w1, γ', cd, e1, f1, C1, hE, hV, hm⟩ := s
  have O1 : OuL w1 (z + 179) v := (f1.2 _ (fun hq => by unfold clc at hq; omega)).trans hO
  have M1 : MoAt w1 (z + 168) F ar := hM.fr f1 (fun q hq ha => by unfold moc at hq; unfold clc at ha; omega)
  cases r with
  | inl x =>
    obtain rfl : cd = 0 := hV x rfl
    have f2 : Fr (fun q => q = z + 179) w1 (xset w1 (z + 179) (.inl (5, 1, .inr (.inl (vp_updL v 0 (Int32.toInt64 x)))))) := Fr.set rfl
    have O2 : OuL (xset w1 (z + 179) (.inl (5, 1, .inr (.inl (vp_updL v 0 (Int32.toInt64 x)))))) (z + 179) (vp_updL v 0 (Int32.toInt64 x)) := xset_at _ _ _
    have M2 := M1.fr f2 (fun q hq ha => by unfold moc at hq; omega)
    have C2 := C1.fq f2.q (fun q hq ha => by unfold clc at hq; omega)
    obtain ⟨w3, F3, ar3, b, e3, M3, f3, R3, c3, v3⟩ := hm _ M2
    have O3 : OuL w3 (z + 179) (vp_updL v 0 (Int32.toInt64 x)) := (f3.2 _ (fun hq => by unfold moc at hq; omega)).trans O2
    have C3 := C2.fq f3.q (fun q hq ha => by unfold clc at hq; unfold moc at ha; omega)
    refine ⟨w3, ?_, γ', F3, ar3, _, C3, M3, O3, R3⟩
    have e4 : LO f Hh z (z + 179) w = x_ret 0 (xset w1 (z + 179) (.inl (5, 1, .inr (.inl (vp_updL v 0 (Int32.toInt64 x)))))) := by
      unfold LO
      rw [oe, if_pos hC.o, e1]
      show (some (z + 179)).elim none (fun a5 => (x_lst w1 a5 0 (Int32.toInt64 x)).bind fun w6 => x_ret 0 w6) = _
      rw [oe, O1.st, ob]
    rw [e4, x_br]
    unfold JT
    rw [if_pos M2.o, e3, x_br, if_pos M3.o, X7_thrown M3, x_br, c3, if_pos rfl, if_pos rfl, O3.ld, ob, updL0, v3 x rfl, lg_same, if_pos rfl]
  | inr E =>
    obtain ⟨h1, h2⟩ := hE E rfl
    have M2 : MoAt (w1.1 + 1, w1.2) (z + 168) F ar := M1
    obtain ⟨w3, F3, ar3, b, e3, M3, f3, R3, c3, v3⟩ := hm _ M2
    have O3 : OuL w3 (z + 179) v := (f3.2 _ (fun hq => by unfold moc at hq; omega)).trans O1
    have C2 : Cls (w1.1 + 1, w1.2) z γ' := C1
    have C3 := C2.fq f3.q (fun q hq ha => by unfold clc at hq; unfold moc at ha; omega)
    refine ⟨w3, ?_, γ', F3, ar3, _, C3, M3, O3, R3⟩
    have e4 : LO f Hh z (z + 179) w = x_ret cd (w1.1 + 1, w1.2) := by
      unfold LO
      rw [oe, if_pos hC.o, e1]
      show Hh E (w1.1 + 1, w1.2) = _
      rw [hh E _ (by rw [h1]; exact h2), h1]
    rw [e4, x_br]
    unfold JT
    rw [if_pos M2.o, e3, x_br, if_pos M3.o, X7_thrown M3, x_br, c3, if_pos rfl, if_neg h2]
/-- the same for truth values -/
def LOB (f : xO Int32) (H : String → xW → xO Int32) (z o : Nat) (w : xW) : xO Int32 := (some z).elim none fun a1 => if x_isO w a1 6 = true then (x_try f (fun r3 w2 => (if r3 = 0 then ((some o).elim none fun a6 => (x_lst w2 a6 0 0).bind fun w7 => x_ret 0 w7) else ((some o).elim none fun a8 => (x_lst w2 a8 0 1).bind fun w9 => x_ret 0 w9))) H) else none
def JTB (K : xW → xO Int32) (fm : xW → xO Int32) (c o : Nat) (r11 : Int32) (w10 : xW) : xO Int32 := if x_isO w10 c 7 = true then (x_bind (fm w10) fun r14 w13 => if x_isO w13 c 7 = true then (x_bind (f_X7_thrown c w13) fun r17 w16 => (if r17 = r11 then ((if r11 = 0 then ((x_lld w16 o 0).bind fun v21 => (if r14 = 0 then ((if (lg_cmp v21 0) = 0 then (K w16) else (x_ret 0 w16))) else ((if (lg_cmp v21 1) = 0 then (K w16) else (x_ret 0 w16))))) else (K w16))) else (x_ret 0 w16))) else none) else none
theorem J_bool {f : xO Int32} {fm : xW → xO Int32} {H : String → Int32} {Hh : String → xW → xO Int32} (hC : Cls w z γ) (hO : OuL w (z + 179) v) (hM : MoAt w (z + 168) F ar) (s : Sbs z w f fm H F ar) (hh : ∀ E w, H E ≠ 0 → Hh E w = x_ret (H E) w) (K : xW → xO Int32) :
    ∃ w', x_bind (LOB f Hh z (z + 179) w) (JTB K fm (z + 168) (z + 179)) = K w' ∧ Inv z w' := by
  obtain ⟨r, w1, γ', cd, e1, f1, C1, hE, hV, hm⟩ := s
  have O1 : OuL w1 (z + 179) v := (f1.2 _ (fun hq => by unfold clc at hq; omega)).trans hO
  have M1 : MoAt w1 (z + 168) F ar := hM.fr f1 (fun q hq ha => by unfold moc at hq; unfold clc at ha; omega)
  cases r with
  | inl x =>
    obtain rfl : cd = 0 := hV x rfl
    have f2 : Fr (fun q => q = z + 179) w1 (xset w1 (z + 179) (.inl (5, 1, .inr (.inl (vp_updL v 0 (if x = 0 then 0 else 1)))))) := Fr.set rfl
    have O2 : OuL (xset w1 (z + 179) (.inl (5, 1, .inr (.inl (vp_updL v 0 (if x = 0 then 0 else 1)))))) (z + 179) (vp_updL v 0 (if x = 0 then 0 else 1)) := xset_at _ _ _
    have M2 := M1.fr f2 (fun q hq ha => by unfold moc at hq; omega)
    have C2 := C1.fq f2.q (fun q hq ha => by unfold clc at hq; omega)
    obtain ⟨w3, F3, ar3, b, e3, M3, f3, R3, c3, v3⟩ := hm _ M2
    have O3 : OuL w3 (z + 179) (vp_updL v 0 (if x = 0 then 0 else 1)) := (f3.2 _ (fun hq => by unfold moc at hq; omega)).trans O2
    have C3 := C2.fq f3.q (fun q hq ha => by unfold clc at hq; unfold moc at ha; omega)
    refine ⟨w3, ?_, γ', F3, ar3, _, C3, M3, O3, R3⟩
    have e4 : LOB f Hh z (z + 179) w = x_ret 0 (xset w1 (z + 179) (.inl (5, 1, .inr (.inl (vp_updL v 0 (if x = 0 then 0 else 1)))))) := by
      unfold LOB
      rw [oe, if_pos hC.o, e1]
      show (if x = 0 then ((some (z + 179)).elim none fun a6 => (x_lst w1 a6 0 0).bind fun w7 => x_ret 0 w7) else ((some (z + 179)).elim none fun a8 => (x_lst w1 a8 0 1).bind fun w9 => x_ret 0 w9)) = _
      by_cases hx : x = 0
      · rw [if_pos hx, if_pos hx, oe, O1.st, ob]
      · rw [if_neg hx, if_neg hx, oe, O1.st, ob]
    rw [e4, x_br]
    unfold JTB
    rw [if_pos M2.o, e3, x_br, if_pos M3.o, X7_thrown M3, x_br, c3, if_pos rfl, if_pos rfl, O3.ld, ob, updL0, ← v3 x rfl]
    by_cases hx : x = 0
    · rw [if_pos hx, if_pos hx, lg_same, if_pos rfl]
    · rw [if_neg hx, if_neg hx, lg_same, if_pos rfl]
  | inr E =>
    obtain ⟨h1, h2⟩ := hE E rfl
    have M2 : MoAt (w1.1 + 1, w1.2) (z + 168) F ar := M1
    obtain ⟨w3, F3, ar3, b, e3, M3, f3, R3, c3, v3⟩ := hm _ M2
    have O3 : OuL w3 (z + 179) v := (f3.2 _ (fun hq => by unfold moc at hq; omega)).trans O1
    have C2 : Cls (w1.1 + 1, w1.2) z γ' := C1
    have C3 := C2.fq f3.q (fun q hq ha => by unfold clc at hq; unfold moc at ha; omega)
    refine ⟨w3, ?_, γ', F3, ar3, _, C3, M3, O3, R3⟩
    have e4 : LOB f Hh z (z + 179) w = x_ret cd (w1.1 + 1, w1.2) := by
      unfold LOB
      rw [oe, if_pos hC.o, e1]
      show Hh E (w1.1 + 1, w1.2) = _
      rw [hh E _ (by rw [h1]; exact h2), h1]
    rw [e4, x_br]
    unfold JTB
    rw [if_pos M2.o, e3, x_br, if_pos M3.o, X7_thrown M3, x_br, c3, if_pos rfl, if_neg h2]
/-- calls that never throw -/
def JP (K : xW → xO Int32) (f : xO Int32) (fm : xW → xO Int32) (z c : Nat) (w0 : xW) : xO Int32 := if x_isO w0 z 6 = true then (x_bind f fun r165 w164 => if x_isO w164 c 7 = true then (x_bind (fm w164) fun r168 w167 => (if r165 = r168 then (K w167) else (x_ret 0 w167))) else none) else none
theorem J_pl {f : xO Int32} {fm : xW → xO Int32} (hC : Cls w z γ) (hO : OuL w (z + 179) v) (hM : MoAt w (z + 168) F ar) (s : Sbs z w f fm (fun _ => 0) F ar) (K : xW → xO Int32) :
    ∃ w', JP K f fm z (z + 168) w = K w' ∧ Inv z w' := by
  obtain ⟨r, w1, γ', cd, e1, f1, C1, hE, hV, hm⟩ := s
  have O1 : OuL w1 (z + 179) v := (f1.2 _ (fun hq => by unfold clc at hq; omega)).trans hO
  have M1 : MoAt w1 (z + 168) F ar := hM.fr f1 (fun q hq ha => by unfold moc at hq; unfold clc at ha; omega)
  cases r with
  | inl x =>
    obtain ⟨w3, F3, ar3, b, e3, M3, f3, R3, c3, v3⟩ := hm _ M1
    have O3 : OuL w3 (z + 179) v := (f3.2 _ (fun hq => by unfold moc at hq; omega)).trans O1
    have C3 := C1.fq f3.q (fun q hq ha => by unfold clc at hq; unfold moc at ha; omega)
    refine ⟨w3, ?_, γ', F3, ar3, _, C3, M3, O3, R3⟩
    unfold JP
    rw [if_pos hC.o, e1]
    show (if x_isO w1 (z + 168) 7 = true then (x_bind (fm w1) fun r168 w167 => (if x = r168 then (K w167) else (x_ret 0 w167))) else none) = _
    rw [if_pos M1.o, e3, x_br, if_pos (v3 x rfl)]
  | inr E =>
    obtain ⟨h1, h2⟩ := hE E rfl
    exact absurd h1.symm h2
/-! calls that only read -/
def CRd (z : Nat) (w : xW) (γ : CG) (f : xO Int32) (r : Int32 ⊕ String) : Prop := ∃ w1, f = some (r, bmp r w1) ∧ Fr (clc z) w w1 ∧ Cls w1 z γ
def MRd (c : Nat) (F : Nat → Int32) (ar : Nat → Nat → Int32) (fm : xW → xO Int32) (cd b : Int32) : Prop := ∀ w', MoAt w' c F ar → ∃ w2 ar', fm w' = x_ret b w2 ∧ MoAt w2 c (upd F 0 cd) ar' ∧ Fr (moc c) w' w2 ∧ ∀ k, k ≠ 9 → ar' k = ar k
theorem Rd_sbs {f : xO Int32} {fm : xW → xO Int32} {H : String → Int32} {r : Int32 ⊕ String} {cd b : Int32} (hc : CRd z w γ f r) (hm : MRd (z + 168) F ar fm cd b) (hR : Rel γ F ar) (hE : ∀ E, r = .inr E → H E = cd ∧ cd ≠ 0) (hV : ∀ v, r = .inl v → cd = 0 ∧ v = b) : Sbs z w f fm H F ar := by
  obtain ⟨w1, e1, f1, C1⟩ := hc
  refine ⟨r, w1, γ, cd, e1, f1, C1, hE, fun v hv => (hV v hv).1, fun w' M => ?_⟩
  obtain ⟨w2, ar', e2, M2, f2, h9⟩ := hm w' M
  exact ⟨w2, _, ar', b, e2, M2, f2, hR.rd (fun k hk => by unfold upd; rw [if_neg (by omega)]) (fun k hk => h9 k (by omega)), by unfold upd; rw [if_pos rfl], fun v hv => (hV v hv).2⟩
/-- an answer, or what is thrown -/
theorem Rd_ret {f : xO Int32} {fm : xW → xO Int32} {H : String → Int32} {b : Int32} (hc : CRd z w γ f (.inl b)) (hm : MRd (z + 168) F ar fm 0 b) (hR : Rel γ F ar) : Sbs z w f fm H F ar :=
  Rd_sbs hc hm hR (fun E hE => by cases hE) (fun v hv => ⟨rfl, by cases hv; rfl⟩)
theorem Rd_thr {f : xO Int32} {fm : xW → xO Int32} {H : String → Int32} {b cd : Int32} {E : String} (hc : CRd z w γ f (.inr E)) (hm : MRd (z + 168) F ar fm cd b) (hR : Rel γ F ar) (hH : H E = cd) (h0 : cd ≠ 0) : Sbs z w f fm H F ar :=
  Rd_sbs hc hm hR (fun E' hE => by cases hE; exact ⟨hH, h0⟩) (fun v hv => by cases hv)
end JJ
theorem nar_c (x : Int32) : x_nar 1 x = x_c x := rfl
theorem x_cc (x : Int32) : x_c (x_c x) = x_c x := by
  have e : (x.toUInt32 % 65536).toInt32.toUInt32 = x.toUInt32 % 65536 := rfl
  unfold x_c
  rw [e]
  congr 1
  apply UInt32.toNat_inj.mp
  rw [UInt32.toNat_mod, UInt32.toNat_mod]
  exact Nat.mod_mod _ _
