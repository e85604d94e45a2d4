theorem mc_adj_all : pg_all.all mc_adj = true := by decide +kernel
theorem mc_nth_mem {α : Type} : ∀ (l : List α) (n : Nat) (d : α), mc_nth l n d ∈ l ∨ mc_nth l n d = d
  | [], _, _ => Or.inr rfl
  | _ :: _, 0, _ => Or.inl List.mem_cons_self
  | _ :: r, n + 1, d => (mc_nth_mem r n d).imp (List.mem_cons_of_mem _) id
theorem mc_adjs (mi : Nat) : mc_adj (pg_tb mi) = true := by
  rcases mc_nth_mem pg_all mi [] with h | h
  · exact List.all_eq_true.mp mc_adj_all _ h
  · unfold pg_tb
    rw [h]
    rfl
