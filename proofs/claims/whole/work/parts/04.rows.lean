/-- the words that every method may use -/
def xWS : List Cond := lw_tbl.filter goodWord
theorem xw {w : Cond} (i : Nat) (h : lw_tbl[i]? = some w) (hg : goodWord w = true) : w ∈ xWS := List.mem_filter.mpr ⟨List.mem_of_getElem? h, hg⟩
theorem xWS_good {w : Cond} (h : w ∈ xWS) : goodWord w = true := (List.mem_filter.mp h).2
/-- words that stay though they are no good ones -/
def xnk : Cond → Bool
  | .fieldLinkNest .. => true
  | .methodLinkNest .. => true
  | .declares _ => true
  | .castable .. => true
  | _ => false
theorem xnk_ot {w : Cond} (h : xnk w = true) : w.onTables = true := by
  cases w <;> first | rfl | (simp [xnk] at h)
theorem xnk_warm {w : Cond} (h : xnk w = true) {s U : State} (hW : s.WarmedH U.vm) (hZ : va_Nw w s) : va_Nw w U := by
  cases w <;> first
    | exact va_Nw.warmF hW hZ
    | exact va_Nw.warmM hW hZ
    | exact va_Nw.warmD hW hZ
    | exact va_Nw.warmC hW hZ
    | (simp [xnk] at h)
def xNS : List Cond := tables_1.filter xnk
theorem xn {w : Cond} (i : Nat) (h : tables_1[i]? = some w) (hg : xnk w = true) : w ∈ xNS := List.mem_filter.mpr ⟨List.mem_of_getElem? h, hg⟩
/-- the String literals: class, entry, text -/
def xLit : List (String × Nat × String) := tables_1.filterMap fun w => match w with
  | .stringRef o k t => some (o, k, t)
  | _ => none
/-- their bytes -/
def xBy (i : Nat) : List Int32 := match xLit[i]? with
  | some q => q.2.2.toList.map fun ch => Int32.ofNat ch.toNat
  | none => []
/-- what holds of the tables, and of the cells that nobody writes -/
def xSt (Γ : xG) (U : State) : Prop := va_K Γ.1 xcl (xtys Γ) U ∧ (∀ w ∈ xNS, va_Nw w U) ∧ vx_Zq Bundle.tN "UNASSIGNED_STACK" Bundle.steD (xA Γ) U U.heap ∧ vx_Zq Bundle.tN "SUPPRESSED_SENTINEL" Bundle.listD (xA Γ) U U.heap ∧
  va_Z "java/lang/String" "COMPACT_STRINGS" "Z" (.int 1) (xA Γ) U U.heap ∧ va_Zq "jdk/internal/util/Preconditions" "SIOOBE_FORMATTER" "Ljava/util/function/BiFunction;" (xA Γ) U U.heap ∧
  (∀ (i : Nat) (q : String × Nat × String), xLit[i]? = some q → vk_R q.1 q.2.1 q.2.2 (Γ.2.2.2.1 i) U ∧ va_O "java/lang/String" (Γ.2.2.2.1 i) (xA Γ) U U.heap ∧ va_OF "java/lang/String" "coder" "B" (.int 0) (Γ.2.2.2.1 i) (xA Γ) U U.heap ∧ va_OF "java/lang/String" "value" "[B" (.ref (Γ.2.2.2.2 i)) (Γ.2.2.2.1 i) (xA Γ) U U.heap ∧ va_T .byte (Γ.2.2.2.2 i) (xBy i).length (fun j => .int ((xBy i).getD j 0)) (xA Γ) U U.heap) ∧
  va_AO "ShadowWall$Layer" U ∧ va_AO "ShadowWall$Layers" U
theorem xAO_warm {C : String} {s U : State} (hW : s.WarmedH U.vm) (h : va_AO C s) : va_AO C U := by
  first
    | exact va_AO.warm hW h
    | exact va_AO.moved hW h
    | exact va_AO.moved hW.alike h
theorem xSt.next {Γ : xG} {s U : State} {H : Heap} {locs : List Loc} (h : xSt Γ s) (hS : va_S (xA Γ) s.heap H locs) (hU : U.heap = H) (hW : s.WarmedH U.vm) : xSt Γ U := by
  obtain ⟨h1, h2, h3, h4, h5, h6, h7, h8, h9⟩ := h
  have ha := hW.alike
  have hk := hS.2.1
  rw [← hU] at hk
  refine ⟨va_K.moved ha h1, fun w hw => xnk_warm (List.mem_filter.mp hw).2 hW (h2 w hw), vx_Zq.moved ha (h3.kept hk), vx_Zq.moved ha (h4.kept hk), va_Z.moved ha (h5.kept hk), va_Zq.moved ha (h6.kept hk), fun i q hq => ?_, xAO_warm hW h8, xAO_warm hW h9⟩
  obtain ⟨g1, g2, g3, g4, g5⟩ := h7 i q hq
  exact ⟨g1.warm hW, va_O.moved ha (g2.kept hk), va_OF.moved ha (g3.kept hk), va_OF.moved ha (g4.kept hk), va_T.moved ha (g5.kept hk)⟩
theorem xSt.calling {Γ : xG} {U : State} {g : JFrame} {mk : MethodId} {a : Array Value} (h : xSt Γ U) : xSt Γ (U.calling g mk a) :=
  xSt.next (locs := []) h va_S.rf rfl (State.WarmedH.refl U)
