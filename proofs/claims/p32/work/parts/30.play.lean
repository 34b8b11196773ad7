/-! ===== stage B: a guess, on both sides; the best letter; misses ahead ===== -/
theorem lt_ {α β : Type} (x : α) (k : α → Option β) : lett x k = k x := rfl
section PLAY
variable {z : St} {g : GS}
def okH (g : GS) : Prop := G_len g ≤ 8 ∧ (∀ k, k < 8 → G_pt g k < 27) ∧ ∀ k, k < 8 → G_len g ≤ k → G_pt g k = 0
end PLAY
