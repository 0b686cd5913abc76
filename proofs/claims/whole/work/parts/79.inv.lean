/-! ===== the whole: class and model side by side ===== -/
/-- what the class holds: layers, ring (next, size, walls), saved wall, text and its length, output's length and characters, saved, error position, failed command -/
def CG : Type := WL × Nat × Nat × (Nat → WL) × WL × (Nat → Int32) × Nat × Nat × (Nat → Int32) × Int32 × Int32 × Int32
def CG.mk (g : WL) (nx sz : Nat) (G : Nat → WL) (gs : WL) (tx : Nat → Int32) (n on : Nat) (ot : Nat → Int32) (sv ep fc : Int32) : CG := (g, nx, sz, G, gs, tx, n, on, ot, sv, ep, fc)
def CG.g (γ : CG) : WL := γ.1
def CG.nx (γ : CG) : Nat := γ.2.1
def CG.sz (γ : CG) : Nat := γ.2.2.1
def CG.G (γ : CG) : Nat → WL := γ.2.2.2.1
def CG.gs (γ : CG) : WL := γ.2.2.2.2.1
def CG.tx (γ : CG) : Nat → Int32 := γ.2.2.2.2.2.1
def CG.n (γ : CG) : Nat := γ.2.2.2.2.2.2.1
def CG.on (γ : CG) : Nat := γ.2.2.2.2.2.2.2.1
def CG.ot (γ : CG) : Nat → Int32 := γ.2.2.2.2.2.2.2.2.1
def CG.sv (γ : CG) : Int32 := γ.2.2.2.2.2.2.2.2.2.1
def CG.ep (γ : CG) : Int32 := γ.2.2.2.2.2.2.2.2.2.2.1
def CG.fc (γ : CG) : Int32 := γ.2.2.2.2.2.2.2.2.2.2.2
def CG.wg (γ : CG) (g : WL) : CG := CG.mk g γ.nx γ.sz γ.G γ.gs γ.tx γ.n γ.on γ.ot γ.sv γ.ep γ.fc
def CG.wh (γ : CG) (nx sz : Nat) (G : Nat → WL) : CG := CG.mk γ.g nx sz G γ.gs γ.tx γ.n γ.on γ.ot γ.sv γ.ep γ.fc
def CG.ws (γ : CG) (gs : WL) : CG := CG.mk γ.g γ.nx γ.sz γ.G gs γ.tx γ.n γ.on γ.ot γ.sv γ.ep γ.fc
def CG.wt (γ : CG) (tx : Nat → Int32) (n : Nat) : CG := CG.mk γ.g γ.nx γ.sz γ.G γ.gs tx n γ.on γ.ot γ.sv γ.ep γ.fc
def CG.wo (γ : CG) (on : Nat) (ot : Nat → Int32) : CG := CG.mk γ.g γ.nx γ.sz γ.G γ.gs γ.tx γ.n on ot γ.sv γ.ep γ.fc
def CG.wx (γ : CG) (sv ep fc : Int32) : CG := CG.mk γ.g γ.nx γ.sz γ.G γ.gs γ.tx γ.n γ.on γ.ot sv ep fc
def X6o (z : Nat) (sv ep fc : Int32) : xE := .inr (6, [.ref (z + 1), .ref (z + 15), .ref (z + 143), .int sv, .ref (z + 157), .ref (z + 163), .ref (z + 166), .int ep, .int fc])
def Cls (w : xW) (z : Nat) (γ : CG) : Prop := w.2 z = some (X6o z γ.sv γ.ep γ.fc) ∧ LsAt w (z + 1) γ.g ∧ HiAt w (z + 15) γ.nx γ.sz γ.G ∧ LsAt w (z + 143) γ.gs ∧ (∃ f, FwAt w (z + 157) f ∧ Brd f.tb) ∧ (∃ p kd u k, CtAt w (z + 163) γ.tx γ.n p kd u k) ∧ OuAt w (z + 166) γ.on γ.ot
def clc (z : Nat) : Nat → Prop := fun q => z ≤ q ∧ q < z + 168
/-- only cells of A have changed -/
def Fq (A : Nat → Prop) (w w' : xW) : Prop := ∀ q, ¬ A q → w'.2 q = w.2 q
theorem Fr.q {A : Nat → Prop} {w w' : xW} (h : Fr A w w') : Fq A w w' := h.2
theorem Fq.r {A : Nat → Prop} {w w' : xW} (h : Fq A w w') : Fr A w (w.1, w'.2) := ⟨rfl, h⟩
section CLS
variable {w w' : xW} {z : Nat} {γ : CG}
theorem Cls.fq (h : Cls w z γ) {A : Nat → Prop} (hf : Fq A w w') (hA : ∀ q, clc z q → ¬ A q) : Cls w' z γ := by
  obtain ⟨h1, h2, h3, h4, ⟨f, h5, h5'⟩, ⟨p, kd, u, k, h6⟩, h7⟩ := h
  have r := hf.r
  have key : Cls (w.1, w'.2) z γ := ⟨(hf _ (hA _ ⟨by omega, by omega⟩)).trans h1, h2.fr r (fun q hq => hA q (by unfold blk at hq; exact ⟨by omega, by omega⟩)), h3.fr r (fun q hq => hA q (by unfold ring at hq; exact ⟨by omega, by omega⟩)), h4.fr r (fun q hq => hA q (by unfold blk at hq; exact ⟨by omega, by omega⟩)),
    ⟨f, h5.fr r (fun q hq => hA q (by unfold fwc at hq; exact ⟨by omega, by omega⟩)), h5'⟩, ⟨p, kd, u, k, h6.fr r (fun q hq => hA q (by unfold ctc at hq; exact ⟨by omega, by omega⟩))⟩, h7.fr r (hA _ ⟨by omega, by omega⟩) (hA _ ⟨by omega, by omega⟩)⟩
  exact key
theorem Cls.onG (h : Cls w z γ) {g' : WL} (h' : LsAt w' (z + 1) g') (hf : Fr (blk (z + 1)) w w') : Cls w' z (γ.wg g') := by
  obtain ⟨h1, h2, h3, h4, ⟨f, h5, h5'⟩, ⟨p, kd, u, k, h6⟩, h7⟩ := h
  exact ⟨(hf.2 _ (fun hq => by unfold blk at hq; omega)).trans h1, h', h3.fr hf (fun q hq ha => by unfold ring at hq; unfold blk at ha; omega), h4.fr hf (fun q hq ha => by unfold blk at hq ha; omega),
    ⟨f, h5.fr hf (fun q hq ha => by unfold fwc at hq; unfold blk at ha; omega), h5'⟩, ⟨p, kd, u, k, h6.fr hf (fun q hq ha => by unfold ctc at hq; unfold blk at ha; omega)⟩, h7.fr hf (fun ha => by unfold blk at ha; omega) (fun ha => by unfold blk at ha; omega)⟩
theorem Cls.onH (h : Cls w z γ) {nx sz : Nat} {G : Nat → WL} (h' : HiAt w' (z + 15) nx sz G) (hf : Fr (ring (z + 15)) w w') : Cls w' z (γ.wh nx sz G) := by
  obtain ⟨h1, h2, h3, h4, ⟨f, h5, h5'⟩, ⟨p, kd, u, k, h6⟩, h7⟩ := h
  exact ⟨(hf.2 _ (fun hq => by unfold ring at hq; omega)).trans h1, h2.fr hf (fun q hq ha => by unfold ring at ha; unfold blk at hq; omega), h', h4.fr hf (fun q hq ha => by unfold blk at hq; unfold ring at ha; omega),
    ⟨f, h5.fr hf (fun q hq ha => by unfold fwc at hq; unfold ring at ha; omega), h5'⟩, ⟨p, kd, u, k, h6.fr hf (fun q hq ha => by unfold ctc at hq; unfold ring at ha; omega)⟩, h7.fr hf (fun ha => by unfold ring at ha; omega) (fun ha => by unfold ring at ha; omega)⟩
theorem Cls.onS (h : Cls w z γ) {gs : WL} (h' : LsAt w' (z + 143) gs) (hf : Fr (blk (z + 143)) w w') : Cls w' z (γ.ws gs) := by
  obtain ⟨h1, h2, h3, h4, ⟨f, h5, h5'⟩, ⟨p, kd, u, k, h6⟩, h7⟩ := h
  exact ⟨(hf.2 _ (fun hq => by unfold blk at hq; omega)).trans h1, h2.fr hf (fun q hq ha => by unfold blk at hq ha; omega), h3.fr hf (fun q hq ha => by unfold ring at hq; unfold blk at ha; omega), h',
    ⟨f, h5.fr hf (fun q hq ha => by unfold fwc at hq; unfold blk at ha; omega), h5'⟩, ⟨p, kd, u, k, h6.fr hf (fun q hq ha => by unfold ctc at hq; unfold blk at ha; omega)⟩, h7.fr hf (fun ha => by unfold blk at ha; omega) (fun ha => by unfold blk at ha; omega)⟩
theorem Cls.onF (h : Cls w z γ) {f : FW} (h' : FwAt w' (z + 157) f) (hb : Brd f.tb) (hf : Fr (fwc (z + 157)) w w') : Cls w' z γ := by
  obtain ⟨h1, h2, h3, h4, -, ⟨p, kd, u, k, h6⟩, h7⟩ := h
  exact ⟨(hf.2 _ (fun hq => by unfold fwc at hq; omega)).trans h1, h2.fr hf (fun q hq ha => by unfold blk at hq; unfold fwc at ha; omega), h3.fr hf (fun q hq ha => by unfold ring at hq; unfold fwc at ha; omega), h4.fr hf (fun q hq ha => by unfold blk at hq; unfold fwc at ha; omega),
    ⟨f, h', hb⟩, ⟨p, kd, u, k, h6.fr hf (fun q hq ha => by unfold ctc at hq; unfold fwc at ha; omega)⟩, h7.fr hf (fun ha => by unfold fwc at ha; omega) (fun ha => by unfold fwc at ha; omega)⟩
theorem Cls.onT (h : Cls w z γ) {t : Nat → Int32} {n p k : Nat} {kd : Int32} {u : Nat → Int32} (h' : CtAt w' (z + 163) t n p kd u k) (hf : Fr (ctc (z + 163)) w w') : Cls w' z (γ.wt t n) := by
  obtain ⟨h1, h2, h3, h4, ⟨f, h5, h5'⟩, -, h7⟩ := h
  exact ⟨(hf.2 _ (fun hq => by unfold ctc at hq; omega)).trans h1, h2.fr hf (fun q hq ha => by unfold blk at hq; unfold ctc at ha; omega), h3.fr hf (fun q hq ha => by unfold ring at hq; unfold ctc at ha; omega), h4.fr hf (fun q hq ha => by unfold blk at hq; unfold ctc at ha; omega),
    ⟨f, h5.fr hf (fun q hq ha => by unfold fwc at hq; unfold ctc at ha; omega), h5'⟩, ⟨p, kd, u, k, h'⟩, h7.fr hf (fun ha => by unfold ctc at ha; omega) (fun ha => by unfold ctc at ha; omega)⟩
theorem Cls.onO (h : Cls w z γ) {n : Nat} {t : Nat → Int32} (h' : OuAt w' (z + 166) n t) (hf : Fr (ouc (z + 166)) w w') : Cls w' z (γ.wo n t) := by
  obtain ⟨h1, h2, h3, h4, ⟨f, h5, h5'⟩, ⟨p, kd, u, k, h6⟩, -⟩ := h
  exact ⟨(hf.2 _ (fun hq => by unfold ouc at hq; omega)).trans h1, h2.fr hf (fun q hq ha => by unfold blk at hq; unfold ouc at ha; omega), h3.fr hf (fun q hq ha => by unfold ring at hq; unfold ouc at ha; omega), h4.fr hf (fun q hq ha => by unfold blk at hq; unfold ouc at ha; omega),
    ⟨f, h5.fr hf (fun q hq ha => by unfold fwc at hq; unfold ouc at ha; omega), h5'⟩, ⟨p, kd, u, k, h6.fr hf (fun q hq ha => by unfold ctc at hq; unfold ouc at ha; omega)⟩, h'⟩
theorem Cls.onX (h : Cls w z γ) (sv ep fc : Int32) : Cls (xset w z (X6o z sv ep fc)) z (γ.wx sv ep fc) := by
  obtain ⟨h1, h2, h3, h4, ⟨f, h5, h5'⟩, ⟨p, kd, u, k, h6⟩, h7⟩ := h
  have hf : Fr (fun q => q = z) w (xset w z (X6o z sv ep fc)) := Fr.set rfl
  exact ⟨xset_at _ _ _, h2.fr hf (fun q hq ha => by unfold blk at hq; omega), h3.fr hf (fun q hq ha => by unfold ring at hq; omega), h4.fr hf (fun q hq ha => by unfold blk at hq; omega),
    ⟨f, h5.fr hf (fun q hq ha => by unfold fwc at hq; omega), h5'⟩, ⟨p, kd, u, k, h6.fr hf (fun q hq ha => by unfold ctc at hq; omega)⟩, h7.fr hf (by omega) (by omega)⟩
theorem Cls.o (h : Cls w z γ) : x_isO w z 6 = true := by simp [x_isO, h.1, X6o]
theorem Cls.r0 (h : Cls w z γ) : x_getr w z 6 0 = some (some (z + 1)) := by simp [x_getr, x_get, h.1, X6o, x_vr]
theorem Cls.r1 (h : Cls w z γ) : x_getr w z 6 1 = some (some (z + 15)) := by simp [x_getr, x_get, h.1, X6o, x_vr]
theorem Cls.r2 (h : Cls w z γ) : x_getr w z 6 2 = some (some (z + 143)) := by simp [x_getr, x_get, h.1, X6o, x_vr]
theorem Cls.g3 (h : Cls w z γ) : x_geti w z 6 3 = some γ.sv := by simp [x_geti, x_get, h.1, X6o, x_vi]
theorem Cls.r4 (h : Cls w z γ) : x_getr w z 6 4 = some (some (z + 157)) := by simp [x_getr, x_get, h.1, X6o, x_vr]
theorem Cls.r5 (h : Cls w z γ) : x_getr w z 6 5 = some (some (z + 163)) := by simp [x_getr, x_get, h.1, X6o, x_vr]
theorem Cls.r6 (h : Cls w z γ) : x_getr w z 6 6 = some (some (z + 166)) := by simp [x_getr, x_get, h.1, X6o, x_vr]
theorem Cls.g7 (h : Cls w z γ) : x_geti w z 6 7 = some γ.ep := by simp [x_geti, x_get, h.1, X6o, x_vi]
theorem Cls.g8 (h : Cls w z γ) : x_geti w z 6 8 = some γ.fc := by simp [x_geti, x_get, h.1, X6o, x_vi]
theorem Cls.p3 (h : Cls w z γ) (v : Int32) : x_put w z 6 3 (.int v) = some (xset w z (X6o z v γ.ep γ.fc)) := by simp [x_put, h.1, X6o]
theorem Cls.p7 (h : Cls w z γ) (v : Int32) : x_put w z 6 7 (.int v) = some (xset w z (X6o z γ.sv v γ.fc)) := by simp [x_put, h.1, X6o]
theorem Cls.p8 (h : Cls w z γ) (v : Int32) : x_put w z 6 8 (.int v) = some (xset w z (X6o z γ.sv γ.ep v)) := by simp [x_put, h.1, X6o]
theorem Cls.L (h : Cls w z γ) : LsAt w (z + 1) γ.g := h.2.1
theorem Cls.H (h : Cls w z γ) : HiAt w (z + 15) γ.nx γ.sz γ.G := h.2.2.1
theorem Cls.S (h : Cls w z γ) : LsAt w (z + 143) γ.gs := h.2.2.2.1
theorem Cls.O (h : Cls w z γ) : OuAt w (z + 166) γ.on γ.ot := h.2.2.2.2.2.2
theorem Cls.i (h : Cls w z γ) : InjG γ.g := h.2.1.2.2.2.2.1
end CLS
/-- class and model stand for the same -/
def Rel (γ : CG) (F : Nat → Int32) (ar : Nat → Nat → Int32) : Prop := RelS γ.g (ar 1) ∧ HiR γ.nx γ.sz γ.G F ar ∧ F 6 = γ.sv ∧ (γ.sv = 0 ∨ (γ.sv = 1 ∧ RelS γ.gs (ar 3))) ∧ F 13 = nI γ.n ∧ (∀ i, i < γ.n → ar 5 i = γ.tx i) ∧ F 14 = nI γ.on ∧ (∀ i, i < γ.on → γ.ot i = x_c (ar 7 i) ∧ x_nar 1 (γ.ot i) = γ.ot i) ∧ F 15 = γ.ep ∧ F 16 = γ.fc
/-- other scratch cells only -/
theorem Rel.rd {γ : CG} {F F' : Nat → Int32} {ar ar' : Nat → Nat → Int32} (h : Rel γ F ar) (hF : ∀ k, k = 5 ∨ k = 6 ∨ (13 ≤ k ∧ k ≤ 16) → F' k = F k) (ha : ∀ k, k = 1 ∨ k = 3 ∨ k = 4 ∨ k = 5 ∨ k = 7 → ar' k = ar k) : Rel γ F' ar' := by
  obtain ⟨h1, h2, h3, h4, h5, h6, h7, h8, h9, h10⟩ := h
  refine ⟨by rw [ha 1 (by omega)]; exact h1, h2.keep (hF 5 (by omega)) (ha 4 (by omega)), (hF 6 (by omega)).trans h3, by rw [ha 3 (by omega)]; exact h4, (hF 13 (by omega)).trans h5, fun i hi => by rw [ha 5 (by omega)]; exact h6 i hi, (hF 14 (by omega)).trans h7, fun i hi => by rw [ha 7 (by omega)]; exact h8 i hi, (hF 15 (by omega)).trans h9, (hF 16 (by omega)).trans h10⟩
/-- the law's own row of longs -/
def OuL (w : xW) (o : Nat) (v : Nat → Int64) : Prop := w.2 o = some (.inl (5, 1, .inr (.inl v)))
def Inv (z : Nat) (w : xW) : Prop := ∃ γ F ar v, Cls w z γ ∧ MoAt w (z + 168) F ar ∧ OuL w (z + 179) v ∧ Rel γ F ar
def bmp : Int32 ⊕ String → xW → xW
  | .inl _, w => w
  | .inr _, w => (w.1 + 1, w.2)
/-- a call on both sides: the class's answer r, the model's b and its code cd -/
def Sbs (z : Nat) (w : xW) (f : xO Int32) (fm : xW → xO Int32) (H : String → Int32) (F : Nat → Int32) (ar : Nat → Nat → Int32) : Prop :=
  ∃ r w1 γ' cd, f = some (r, bmp r w1) ∧ Fr (clc z) w w1 ∧ Cls w1 z γ' ∧ (∀ E, r = .inr E → H E = cd ∧ cd ≠ 0) ∧ (∀ v, r = .inl v → cd = 0) ∧
    ∀ w', MoAt w' (z + 168) F ar → ∃ w2 F' ar' b, fm w' = x_ret b w2 ∧ MoAt w2 (z + 168) F' ar' ∧ Fr (moc (z + 168)) w' w2 ∧ Rel γ' F' ar' ∧ F' 0 = cd ∧ ∀ v, r = .inl v → v = b
theorem bmp_2 (r : Int32 ⊕ String) (w : xW) : (bmp r w).2 = w.2 := by cases r <;> rfl
theorem bmp_isO (r : Int32 ⊕ String) (w : xW) (a c : Nat) : x_isO (bmp r w) a c = x_isO w a c := by cases r <;> rfl
theorem OuL.st {w : xW} {o : Nat} {v : Nat → Int64} (h : OuL w o v) (x : Int64) : x_lst w o 0 x = some (xset w o (.inl (5, 1, .inr (.inl (vp_updL v 0 x))))) := by
  unfold OuL at h
  simp only [x_lst, h]
  rw [if_pos ⟨trivial, by decide⟩]
  rfl
theorem OuL.ld {w : xW} {o : Nat} {v : Nat → Int64} (h : OuL w o v) : x_lld w o 0 = some (v 0) := by
  unfold OuL at h
  simp only [x_lld, h]
  rw [if_pos ⟨trivial, by decide⟩]
  rfl
theorem updL0 (v : Nat → Int64) (x : Int64) : vp_updL v 0 x 0 = x := by
  unfold vp_updL
  simp
theorem lg_same (x : Int64) : lg_cmp x x = 0 := by
  unfold lg_cmp
  rw [if_neg (Int64.lt_irrefl), if_pos rfl]
theorem X7_thrown {w : xW} {c : Nat} {F : Nat → Int32} {ar : Nat → Nat → Int32} (h : MoAt w c F ar) : f_X7_thrown c w = x_ret (F 0) w := by
  simp only [f_X7_thrown, h.g0, ob]
