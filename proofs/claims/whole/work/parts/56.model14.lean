/-! ===== the array behind the merging of tones ===== -/
section X7n
variable {w : xW} {c : Nat} {F : Nat → Int32} {ar : Nat → Nat → Int32} {g : WL}
theorem mrg_rel {S : Nat → Int32} (r : RelS g S) (hs : ∀ i j, i < 6 → j < 6 → g.sg i = g.sg j → i = j) {l : Nat} (hl : l + 1 < g.n) : RelS (g.put (g.sg l) (g.m l) (g.v l) (covT (g.t (l + 1)) (g.t l))) (mrgS S l 48) := by
  have h6 := r.2.2.2.1
  have e : ∀ j, j < 3 + 50 * l + 2 ∨ 3 + 50 * l + 50 ≤ j → mrgS S l 48 j = S j := fun j hj => by
    unfold mrgS
    rw [if_neg (by omega)]
  have key := put_rel r hs (i := l) (by omega) (ps := g.ps) (es := g.es) (u := covT (g.t (l + 1)) (g.t l)) (S' := mrgS S l 48) (e 0 (by omega)) ((e 1 (by omega)).trans r.2.1) ((e 2 (by omega)).trans r.2.2.1)
    (fun q hq => ⟨e _ (by omega), e _ (by omega)⟩) (fun q hq hql k hk => e _ (by omega)) (fun k hk => by
      obtain ⟨-, -, -, b4⟩ := r.2.2.2.2 l (by omega)
      obtain ⟨-, -, -, d4⟩ := r.2.2.2.2 (l + 1) hl
      have hd : S (3 + 50 * l + 2 + k + 50) = g.t (l + 1) k + 1 := by
        rw [show 3 + 50 * l + 2 + k + 50 = 3 + 50 * (l + 1) + 2 + k by omega]
        exact (d4 k hk).1
      unfold st mrgS covT
      rw [hd]
      by_cases hc : g.t (l + 1) k = -1
      · rw [if_neg (fun h => h.2.2 ((okT_le (d4 k hk).2).mpr hc)), if_neg (fun h => by simp [hc] at h)]
        exact b4 k hk
      · rw [if_pos ⟨by omega, by omega, fun h9 => hc ((okT_le (d4 k hk).2).mp h9)⟩, if_pos ⟨hk, by simp [hc]⟩]
        exact ⟨rfl, (d4 k hk).2⟩)
  exact key
end X7n
