theorem i_vc (xs : Nat → Int32) (L : Nat) (hL : L ≤ 260) : wpL_law (fun r => r = 1) L xs := by
  refine l_law hL (fun n h1 hn anc up fl ls lf la lr el ml al ll pa mp su ex no hI hQ => ?_)
  unfold wL_law_622
  exact ⟨n + 1, l_642 (post := fun r => r = 1) rfl h1 hn hI hQ n 0 1 1 0 0 (by omega) (Or.inl ⟨rfl, fun j hj => absurd hj (by omega)⟩) (fun _ => ⟨cw_R0, rfl, rfl⟩) (fun q => by omega)⟩
