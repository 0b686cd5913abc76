/-! ===== String literals: length and charAt ===== -/
def x_n64 (r : UInt64) : Bool := decide (r &&& 0x7fffffffffffffff ≤ 0x7ff0000000000000)
def x_n32 (r : UInt32) : Bool := decide (r &&& 0x7fffffff ≤ 0x7f800000)
theorem x_n64_e {r : UInt64} (h : x_n64 r = true) : vf_n64 r := by unfold vf_n64; exact of_decide_eq_true h
theorem x_n32_e {r : UInt32} (h : x_n32 r = true) : vf_n32 r := by unfold vf_n32; exact of_decide_eq_true h
def x_sch (i : Nat) (k : Int32) : Int32 := x_c ((xBy i).getD k.toNatClampNeg 0 &&& 255)
def f_J0_isLatin1_aae02 (i : Nat) (w0 : xW) : xO Int32 := if i < 43 then x_ret 1 w0 else none
def f_J0_coder_7d493 (i : Nat) (w0 : xW) : xO Int32 := if i < 43 then x_ret 0 w0 else none
def f_J0_length_8abf5 (i : Nat) (w0 : xW) : xO Int32 := if i < 43 then x_ret (nI (xBy i).length) w0 else none
def f_J3_checkIndex_8e157 (x0 x1 : Int32) (x2 : Option Nat) (w0 : xW) : xO Int32 := if 0 ≤ x0 ∧ x0 < x1 then x_ret x0 w0 else none
def f_J0_checkIndex_df160 (x0 x1 : Int32) (w0 : xW) : xO Unit := if 0 ≤ x0 ∧ x0 < x1 then x_ret () w0 else none
def f_J1_charAt_3b067 (i : Nat) (x1 : Int32) (w0 : xW) : xO Int32 := if i < 43 ∧ 0 ≤ x1 ∧ x1 < nI (xBy i).length then x_ret (x_sch i x1) w0 else none
def f_J0_charAt_5068e (i : Nat) (x1 : Int32) (w0 : xW) : xO Int32 := if i < 43 ∧ 0 ≤ x1 ∧ x1 < nI (xBy i).length then x_ret (x_sch i x1) w0 else none
theorem xLit_len : xLit.length = 43 := by decide +kernel
theorem xBy_lt : ∀ i, i < 43 → (xBy i).length < 100 := by decide +kernel
theorem xLit_at {i : Nat} (h : i < 43) : ∃ q, xLit[i]? = some q := ⟨_, List.getElem?_eq_getElem (by rw [xLit_len]; exact h)⟩
theorem x_sh0 (x : Int32) : x >>> ((0 : Int32) &&& 31) = x := by
  apply Int32.toBitVec_inj.mp
  simp
section XS
variable {Γ : xG} {p : Program} {l : Launch} {e : Env} {R : Room} {s : State} {m : MethodId} {args : Array Value} {below : List Frame} {meth : Method} {c : Code} {nL : Nat} {Q : State → Prop} {w : xW} {cells slots pc : Nat} {lv lv' : List (Nat × Value)} {st rest : List Value}
variable {own : String} {cc : ByteArray} {ret : Option FieldType}
theorem r_gets (G : xCx Γ p l s m args meth c own cc nL ret) {C n d : String} {v : Value} {ix : Nat} (hZ : va_Z C n d v (xA Γ) s s.heap) (hl : Cond.fieldLink own ix C n d ∈ xWS) (hd : decode cc pc = .ok (.getstatic ix, 3))
    (kk : xAW Γ p l e R s m args below meth c nL Q w cells slots (pc + 3) lv (v :: st)) : xAW Γ p l e R s m args below meth c nL Q w cells slots pc lv st := fun H locs ls hR hS hL => va_gets G.1 G.2.1 hZ hS G.2.2.2.1 (G.2.2.2.2.1 _ hl) (fun _ h => h) hd (kk H locs ls hR hS hL)
theorem r_kget (G : xCx Γ p l s m args meth c own cc nL ret) {o n d : String} {q : Nat} {v : Value} {ix : Nat} (hE : va_OF o n d v q (xA Γ) s s.heap) (hl : Cond.fieldLink own ix o n d ∈ xWS) (hd : decode cc pc = .ok (.getfield ix, 3))
    (kk : xAW Γ p l e R s m args below meth c nL Q w cells slots (pc + 3) lv (v :: st)) : xAW Γ p l e R s m args below meth c nL Q w cells slots pc lv (.ref q :: st) := fun H locs ls hR hS hL => vk_getf G.1 G.2.1 hE hS G.2.2.2.1 (G.2.2.2.2.1 _ hl) (fun _ h => h) hd (kk H locs ls hR hS hL)
theorem r_tlen (G : xCx Γ p l s m args meth c own cc nL ret) {ty : FieldType} {t N : Nat} {f : Nat → Value} (hT : va_T ty t N f (xA Γ) s s.heap) (hd : decode cc pc = .ok (.arraylength, 1))
    (kk : xAW Γ p l e R s m args below meth c nL Q w cells slots (pc + 1) lv (.int (nI N) :: st)) : xAW Γ p l e R s m args below meth c nL Q w cells slots pc lv (.ref t :: st) := fun H locs ls hR hS hL => va_tlen G.1 G.2.1 hT hS rfl hd (kk H locs ls hR hS hL)
theorem r_tb (G : xCx Γ p l s m args meth c own cc nL ret) {t N : Nat} {f : Nat → Value} (hT : va_T .byte t N f (xA Γ) s s.heap) {i : Int32} (hin : vp_in i N) {v : Value} (hv : f i.toNatClampNeg = v) (hd : decode cc pc = .ok (.baload, 1))
    (kk : xAW Γ p l e R s m args below meth c nL Q w cells slots (pc + 1) lv (v :: st)) : xAW Γ p l e R s m args below meth c nL Q w cells slots pc lv (.int i :: .ref t :: st) := fun H locs ls hR hS hL => va_tb G.1 G.2.1 hT hS hin hv hd (kk H locs ls hR hS hL)
theorem r_ishr (G : xCx Γ p l s m args meth c own cc nL ret) {x y : Int32} (hd : decode cc pc = .ok (.ishr, 1)) (k : xAW Γ p l e R s m args below meth c nL Q w cells slots (pc + 1) lv (.int (x >>> (y &&& 31)) :: st)) : xAW Γ p l e R s m args below meth c nL Q w cells slots pc lv (.int y :: .int x :: st) := fun H locs ls hR hS hL => lv_ishr G.1 G.2.1 hd (k H locs ls hR hS hL)
/-- a call of a literal's own method -/
theorem r_callStr {ρ σ : Type} {ι : σ → Option Value} {ι' : ρ → Option Value} {d d' n i ix maxL : Nat} {x : xO σ} {K : σ → xW → xO ρ} {rF : ρ ⊕ String} {wF : xW} {As : List Value} {y : MethodName} {bytes : ByteArray} {ret' : Option FieldType} (G : xCx Γ p l s m args meth c own cc nL ret) (hno : ∀ x ∈ c.exceptionTable.toList, False)
    (hi43 : i < 43) (hyc : y.cls = "java/lang/String") (ht : xTgt y bytes maxL ret' n) (hM : ∀ (r : σ ⊕ String) (w' : xW), x = some (r, w') → xMet Γ l y (xws y bytes maxL ret') d' ι (.ref (Γ.2.2.2.1 i) :: As) w r w' (x_mc r) (x_ms r)) (hyp : x_bind x K = some (rF, wF))
    (hl : Cond.methodLink own ix y ∈ xWS) (hi : Cond.instanceMethod y ∈ xWS) (hs : Cond.selects y.cls y y ∈ xWS) (hf : d' + 1 ≤ d) (hlo : 8 + (maxL + 11) + (30 * d' + 100) ≤ 30 * d + 100) (hst : st = As.reverse ++ .ref (Γ.2.2.2.1 i) :: rest) (hn : As.length = n) (hW : (rest.map fun v => v.category).sum ≤ 8) (hd : decode cc pc = .ok (.invokevirtual ix, 3))
    {push : σ → List Value} (hpu : ∀ v, (ι v).toList ++ rest = push v)
    (kk : ∀ (v : σ) (w' : xW), K v w' = some (rF, wF) → xAW Γ p l e (xRm d (x_mc rF) (x_ms rF)) s m args below meth c nL (xQm Γ below ι' rF wF args s (x_mc rF) (x_ms rF)) w' 0 0 (pc + 3) lv (push v)) :
    xAW Γ p l e (xRm d (x_mc rF) (x_ms rF)) s m args below meth c nL (xQm Γ below ι' rF wF args s (x_mc rF) (x_ms rF)) w 0 0 pc lv st := by
  have hts := G.2.2.2.2.1
  obtain ⟨q, hq⟩ := xLit_at hi43
  refine r_runM (As := (Value.ref (Γ.2.2.2.1 i) :: As).toArray) (ι := ι) (rest := rest) G hno hyp (fun r w' hx hfit H locs ls hR hS hL => ?_) (fun v w' _ h => by rw [hpu]; exact kk v w' h)
  obtain ⟨cell, h1, h2, h3, h4⟩ := (G.2.2.2.2.2.1.2.2.2.2.2.2.1 i q hq).2.1
  refine vx_runV (xFix G) (hM r w' hx) ⟨xCB G ht hl hf hlo, hts _ hi, hts _ hs⟩ ⟨xPc.blind, ⟨cell, ?_, h2, by rw [hyc]; exact h3⟩, (xPreS G hR hS (.ref (Γ.2.2.2.1 i) :: As)).2⟩ rfl hn hL.1 hst (lv_room hW) hd hfit
  rw [hS.2.1 _ (Array.getElem?_eq_some_iff.mp h1).1 h4]
  exact h1
end XS
