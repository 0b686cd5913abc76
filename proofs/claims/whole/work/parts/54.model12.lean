/-! ===== the model merges: its loop ===== -/
section X7k
variable {w : xW} {c : Nat} {F : Nat → Int32} {ar : Nat → Nat → Int32} {g : WL}
/-- the upper layer's tones laid over the lower one's, in the array -/
def mrgS (S : Nat → Int32) (l : Nat) (k : Nat) : Nat → Int32 := fun j => if 3 + 50 * l + 2 ≤ j ∧ j < 3 + 50 * l + 2 + k ∧ ¬ S (j + 50) ≤ 0 then S (j + 50) else S j
theorem mrgS_succ (S : Nat → Int32) (l k : Nat) : mrgS S l (k + 1) = if S (3 + 50 * l + 2 + k + 50) ≤ 0 then mrgS S l k else upd (mrgS S l k) (3 + 50 * l + 2 + k) (S (3 + 50 * l + 2 + k + 50)) := by
  funext j
  by_cases hc : S (3 + 50 * l + 2 + k + 50) ≤ 0
  · rw [if_pos hc]
    unfold mrgS
    by_cases hj : j = 3 + 50 * l + 2 + k
    · subst hj
      rw [if_neg (fun h => h.2.2 hc), if_neg (by omega)]
    · have e : (j < 3 + 50 * l + 2 + (k + 1)) = (j < 3 + 50 * l + 2 + k) := propext ⟨fun h => by omega, fun h => by omega⟩
      simp only [e]
  · rw [if_neg hc]
    unfold mrgS upd
    by_cases hj : j = 3 + 50 * l + 2 + k
    · subst hj
      rw [if_pos ⟨by omega, by omega, hc⟩, if_pos rfl]
    · have e : (j < 3 + 50 * l + 2 + (k + 1)) = (j < 3 + 50 * l + 2 + k) := propext ⟨fun h => by omega, fun h => by omega⟩
      rw [if_neg hj]
      simp only [e]
end X7k
