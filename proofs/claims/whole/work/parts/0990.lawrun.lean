theorem am_aft_v {X : am_X} (G : am_G) (f : am_M) (N j pc : Nat) (ls : am_L) (rest : List Value) : am_aft (some (none, G, f)) (fun r G' f' => am_run X N j pc ls (r.toList ++ rest) G' f') = am_run X N j pc ls rest G f := rfl
theorem am_law_run {X : am_X} {f' : am_M} (h : am_Ev X 172 16 [some (.ref 1000), some (.ref 0), some (.ref 91), none] [] am_fb (some (.int 1)) f') : ∃ n, am_run X n 172 0 [some (.ref 1000), none, none, none] [] [] am_f0 = some (some (.int 1), am_G0, f') := by
  obtain ⟨m, h⟩ := h
  have e1 : ∀ N, am_run X (N + 3) 172 0 [some (.ref 1000), none, none, none] [] [] am_f0 = am_aft (am_run X N 62 0 [some (.ref 0)] [] [(.inl 7, List.replicate 9 none)] (am_cl am_f0 0)) (fun r G' f' => am_run X N 172 7 [some (.ref 1000), none, none, none] (r.toList ++ [.ref 0]) G' f') := fun N => rfl
  have e2 : ∀ N, am_run X (N + 4) 172 7 [some (.ref 1000), none, none, none] [.ref 0] am_G1 am_fa = am_aft (am_run X N 90 0 [some (.ref 91)] [] (am_G1 ++ [((.inl 8, List.replicate 34 none) : am_K)]) (am_cl am_fa 91)) (fun r G' f' => am_run X N 172 15 [some (.ref 1000), some (.ref 0), none, none] (r.toList ++ [.ref 91]) G' f') := fun N => rfl
  have e3 : ∀ N, am_run X (N + 1) 172 15 [some (.ref 1000), some (.ref 0), none, none] [.ref 91] am_G0 am_fb = am_run X N 172 16 [some (.ref 1000), some (.ref 0), some (.ref 91), none] [] am_G0 am_fb := fun N => rfl
  have h0 : am_run X (m + 3000) 172 16 [some (.ref 1000), some (.ref 0), some (.ref 91), none] [] am_G0 am_fb = some (some (.int 1), am_G0, f') := am_run_le h (Nat.le_add_right m 3000)
  have h1 : 3000 ≤ m + 3000 := Nat.le_add_left 3000 m
  generalize m + 3000 = M at h0 h1
  have i1 := am_run_le (am_i1 X) (m := M + 1 + 4) (by omega)
  have i2 := am_run_le (am_i2 X) (m := M + 1) (by omega)
  refine ⟨M + 1 + 4 + 3, ?_⟩
  rw [e1, i1, am_aft_v, e2, i2, am_aft_v, e3]
  exact h0
