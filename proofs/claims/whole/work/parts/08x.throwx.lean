/-! ===== a thrown NoSuchElementException: its class hands the message on by another entry ===== -/
abbrev xRx : ByteArray := prog_28_method_4_code
theorem xrx_0 : decode xRx 0 = .ok (.aload_n 0, 1) := by decide +kernel
theorem xrx_1 : decode xRx 1 = .ok (.aload_n 1, 1) := by decide +kernel
theorem xrx_2 : decode xRx 2 = .ok (.invokespecial 13, 3) := by decide +kernel
theorem xrx_5 : decode xRx 5 = .ok (.return_, 1) := by decide +kernel
def xThX (own : String) (ik ic : Nat) (E : String) : Prop := Cond.classLink own ik E ∈ xWS ∧ Cond.initialized E ∈ xWS ∧ (∀ w ∈ xx_atS own ic E "java/lang/RuntimeException" ["java/lang/Exception"] 13 xRx, w ∈ xWS ∨ w ∈ xNS) ∧ Bundle.fit E = true
section XTX
variable {Γ : xG} {p : Program} {l : Launch} {e : Env} {R : Room} {s : State} {m : MethodId} {args : Array Value} {below : List Frame} {meth : Method} {c : Code} {nL : Nat} {Q : State → Prop} {w : xW} {cells slots pc : Nat} {lv lv' : List (Nat × Value)} {st rest : List Value}
variable {own : String} {cc : ByteArray} {ret : Option FieldType}
theorem r_throwX {ρ : Type} {ι : ρ → Option Value} {d ik is ic : Nat} {E tx : String} {rF : ρ ⊕ String} {wF : xW} (i : Nat) (G : xCx Γ p l s m args meth c own cc nL ret) (hno : ∀ x ∈ c.exceptionTable.toList, False) (hyp : x_thr E w = some (rF, wF)) (hT : xThX own ik ic E) (hi : xLit[i]? = some (own, is, tx)) (h6 : 6 ≤ d)
    (d0 : decode cc pc = .ok (.new ik, 3)) (d3 : decode cc (pc + 3) = .ok (.dup, 1)) (d4 : decode cc (pc + 4) = .ok (.ldc is, 2)) (d6 : decode cc (pc + 6) = .ok (.invokespecial ic, 3)) (d9 : decode cc (pc + 9) = .ok (.athrow, 1)) :
    xAW Γ p l e (xRm d (x_mc rF) (x_ms rF)) s m args below meth c nL (xQm Γ below ι rF wF args s (x_mc rF) (x_ms rF)) w 0 0 pc lv [] := by
  have h2 : some ((Sum.inr E : ρ ⊕ String), ((w.1 + 1, w.2) : xW)) = some (rF, wF) := hyp
  cases h2
  intro H locs ls hR hS hL
  obtain ⟨k1, k2, k3, k4⟩ := hT
  refine xx_makeS (names := ["java/lang/Exception"]) G.1 G.2.1 G.2.2.2.2.2.2.2.2.2 xrx_0 xrx_1 xrx_2 xrx_5 (by decide) G.2.2.2.1 k4 (by decide) (xat G (Or.inl k1)) (xat G (Or.inl k2)) (G.2.2.2.2.2.1.2.2.2.2.2.2.1 i _ hi).1 (fun w hw => xat G (k3 w hw)) (fun w hw => ?_) G.2.2.2.2.2.1.2.2.1 G.2.2.2.2.2.1.2.2.2.1 hS (hL.1.trans G.2.2.1.symm) d0 d3 d4 d6 ?_ ?_ (Nat.le_refl _) (Nat.le_refl _) (fun H1 ce hce hv hcl hz hk => ?_)
  · rcases List.mem_cons.mp hw with h | h
    · rw [h]; exact x_ot (Or.inl k1)
    · rcases List.mem_cons.mp h with h | h
      · rw [h]; exact x_ot (Or.inl k2)
      · exact x_ot (k3 w h)
  · show 1 + 1 + 3 < d
    omega
  · show 0 + (13 * (1 + 1 + 1) + 43) ≤ 30 * d + 100
    omega
  · have hS1 : va_S (xA Γ) s.heap H1 locs := ⟨by rw [hz]; exact Nat.le_succ_of_le hS.1, fun q h1 h2 => (hk q (Nat.lt_of_lt_of_le h1 hS.1)).trans (hS.2.1 q h1 h2), hS.2.2⟩
    have hR1 : xRl Γ (w.1 + 1, w.2) H1 := by
      refine ⟨by rw [hz, hR.1], Nat.le_succ_of_le hR.2.1, fun a e' ha' => ?_⟩
      have h9 := hR.2.2 a e' ha'
      exact ⟨h9.1, h9.2.kept (hk a h9.2.lt)⟩
    exact vx_athrow G.1 G.2.1 d9 (vx_out (fun x hx => absurd hx (hno x)) G.2.2.2.2.2.2.2.1 hce hv hcl (fun t ht ha => ⟨rfl, by rw [ht]; exact hR1, hS1.F ht⟩) hS.2.2 (Nat.le_refl _) (Nat.le_refl _))
theorem r_throwXW {ρ : Type} {ι : ρ → Option Value} {d ik is ic : Nat} {E tx : String} {rF : ρ ⊕ String} {wF : xW} (i : Nat) (G : xCx Γ p l s m args meth c own cc nL ret) (hno : ∀ x ∈ c.exceptionTable.toList, False) (hyp : x_thr E w = some (rF, wF)) (hT : xThX own ik ic E) (hi : xLit[i]? = some (own, is, tx)) (h6 : 6 ≤ d)
    (d0 : decode cc pc = .ok (.new ik, 3)) (d3 : decode cc (pc + 3) = .ok (.dup, 1)) (d4 : decode cc (pc + 4) = .ok (.ldc_w is, 3)) (d6 : decode cc (pc + 7) = .ok (.invokespecial ic, 3)) (d9 : decode cc (pc + 10) = .ok (.athrow, 1)) :
    xAW Γ p l e (xRm d (x_mc rF) (x_ms rF)) s m args below meth c nL (xQm Γ below ι rF wF args s (x_mc rF) (x_ms rF)) w 0 0 pc lv [] := by
  have h2 : some ((Sum.inr E : ρ ⊕ String), ((w.1 + 1, w.2) : xW)) = some (rF, wF) := hyp
  cases h2
  intro H locs ls hR hS hL
  obtain ⟨k1, k2, k3, k4⟩ := hT
  refine xx_makeSW (names := ["java/lang/Exception"]) G.1 G.2.1 G.2.2.2.2.2.2.2.2.2 xrx_0 xrx_1 xrx_2 xrx_5 (by decide) G.2.2.2.1 k4 (by decide) (xat G (Or.inl k1)) (xat G (Or.inl k2)) (G.2.2.2.2.2.1.2.2.2.2.2.2.1 i _ hi).1 (fun w hw => xat G (k3 w hw)) (fun w hw => ?_) G.2.2.2.2.2.1.2.2.1 G.2.2.2.2.2.1.2.2.2.1 hS (hL.1.trans G.2.2.1.symm) d0 d3 d4 d6 ?_ ?_ (Nat.le_refl _) (Nat.le_refl _) (fun H1 ce hce hv hcl hz hk => ?_)
  · rcases List.mem_cons.mp hw with h | h
    · rw [h]; exact x_ot (Or.inl k1)
    · rcases List.mem_cons.mp h with h | h
      · rw [h]; exact x_ot (Or.inl k2)
      · exact x_ot (k3 w h)
  · show 1 + 1 + 3 < d
    omega
  · show 0 + (13 * (1 + 1 + 1) + 43) ≤ 30 * d + 100
    omega
  · have hS1 : va_S (xA Γ) s.heap H1 locs := ⟨by rw [hz]; exact Nat.le_succ_of_le hS.1, fun q h1 h2 => (hk q (Nat.lt_of_lt_of_le h1 hS.1)).trans (hS.2.1 q h1 h2), hS.2.2⟩
    have hR1 : xRl Γ (w.1 + 1, w.2) H1 := by
      refine ⟨by rw [hz, hR.1], Nat.le_succ_of_le hR.2.1, fun a e' ha' => ?_⟩
      have h9 := hR.2.2 a e' ha'
      exact ⟨h9.1, h9.2.kept (hk a h9.2.lt)⟩
    exact vx_athrow G.1 G.2.1 d9 (vx_out (fun x hx => absurd hx (hno x)) G.2.2.2.2.2.2.2.1 hce hv hcl (fun t ht ha => ⟨rfl, by rw [ht]; exact hR1, hS1.F ht⟩) hS.2.2 (Nat.le_refl _) (Nat.le_refl _))
end XTX
