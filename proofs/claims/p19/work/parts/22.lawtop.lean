/-! the law's beginning -/
theorem gp_J_0 : gp_J 0 0 0 (fun _ => 0) (fun _ => 0) (fun _ => 0) (fun _ => 0) (fun _ => 0) (fun _ => 0) (fun _ => 0) (fun _ => 0) (fun _ => 0) (fun _ => 0) (fun _ => 0) (fun _ => 0) (fun _ _ => False) (fun _ => 0) := by
  have nE : ∀ s t, ¬ gs_E 0 (fun _ => 0) (fun _ => 0) (fun _ => 0) (fun _ => 0) s t := fun s t ⟨i, j, _, hj, _⟩ => absurd hj (by omega)
  refine ⟨⟨by omega, by omega, by omega⟩, fun j h => absurd h (by omega), fun j h => absurd h (by omega), fun j h => absurd h (by omega), fun t _ _ s => ⟨fun h => absurd h (gs_m_0 s), fun h => absurd h (nE s t)⟩, fun t _ _ s => ⟨fun h => absurd h (gs_m_0 s), fun h => h.elim⟩, fun z h => gs_L_i (A := fun _ => False) (fun c hc => nE _ _ hc) (fun _ _ h _ => h) h,
    ⟨fun _ _ h => h.elim, fun _ _ h => h.elim, fun _ _ h => h.elim, fun t h1 h2 => absurd h2 (by omega)⟩, ⟨rfl, fun k h => absurd h (by omega), fun k _ h => absurd h (by omega), fun t h1 h2 => absurd h2 (by omega), fun k h => absurd h (by omega)⟩, fun t h1 h2 => absurd h2 (by omega), fun t h1 h2 => absurd h2 (by omega), ⟨fun j h => absurd h (by omega), fun j h => absurd h (by omega)⟩⟩
theorem gl_B_0 {L : Nat} {xs : Nat → Int32} {y : Nat} (hy : y ≤ 4) : gl_B L xs y 0 0 0 0 0 0 (fun _ => 0) (fun _ => 287953294993589247) 0 0 16 (nI y) (fun _ => 0) (fun _ => 0) (fun _ => 0) (fun _ => 0) (fun _ => 0) (fun _ => 0) (fun _ => 0) (fun _ => 0) (fun _ => 0) (fun _ => 0) (fun _ => 0) (fun _ => 0) (fun _ _ => False) (fun _ => 0) (fun _ => 0) (fun _ => 0) := by
  have f0 : ∀ x, x < 4 → gp_fd 0 (10 * x) 10 = 0 := by decide +kernel
  refine ⟨gp_J_0, ⟨rfl, rfl⟩, ⟨by omega, by omega⟩, fun t h1 h2 => absurd h2 (by omega), ⟨rfl, fun e (h : e < 0) => absurd h (Nat.not_lt_zero e), fun _ _ => Nat.le_refl 0, fun j _ => Or.inl ⟨by rw [gp_emp], rfl⟩⟩, ⟨rfl, fun e h => absurd h (by omega), Nat.le_refl 0, by omega, fun k _ h => absurd h (by omega)⟩, rfl, ⟨Nat.le_refl 0, Nat.le_refl 0⟩, fun e he => ?_, fun t _ _ => ⟨fun h => absurd h (gs_m_0 _), fun ⟨m, hm, _⟩ => absurd hm (by omega)⟩, fun x hx => ?_, fun j _ z => ?_, fun j _ _ => gp_emp j⟩
  · have e0 : gl_m 0 0 (fun _ => 0) e = 0 := by
      unfold gl_m
      rw [if_neg (by omega)]
      by_cases z : e = 0
      · rw [if_pos z]
        exact Nat.zero_sub _
      · rw [if_neg z]
    rw [e0]
    rfl
  · rw [f0 x (by omega), gp_sv_0]
    rfl
  · rw [gp_emp] at z
    exact absurd (by decide) z
theorem gl_28 {L : Nat} {xs : Nat → Int32} {hd : Int32} {y nn : Nat} (hL : L ≤ 260) (hy1 : 1 ≤ y) (hy : y ≤ 4) (hnn : nn ≤ 128) : wL_law_28 (fun r => r = 1) L xs hd (nI y) (nI nn) 0 0 := by
  unfold wL_law_28
  refine ⟨by decide, by decide, 8, 771, by decide, by decide, ?_⟩
  unfold wpX_init
  dsimp only
  refine ⟨by decide, by decide, by decide, by decide, by decide, by decide, by decide, by decide, by decide, by decide, by decide, by decide, by decide, by decide, by decide, by decide, ?_⟩
  unfold wpX_clamp
  refine br_t (by decide) (br_t (by decide) (br_t (nI_le (a := 1) hy1 (by omega)) (br_t (nI_le (b := 8) (by omega) (by omega)) ?_)))
  exact ⟨4 + 1, gl_61 (post := fun r => r = 1) (sl := 16) (it := nI y) hL hy1 hy hnn rfl 4 0 rfl 0 0 0 (fun _ => 0) (fun _ => 0) 0 0 (fun _ => 0) (fun _ => 0) (fun _ => 0) (fun _ => 0) (fun _ => 0) (fun _ => 0) (fun _ => 0) (fun _ => 0) (fun _ => 0) (fun _ => 0) (fun _ => 0) (fun _ => 0) (fun _ _ => False) (fun _ => 0) (fun _ => 0) (fun _ => 0) (Or.inr ⟨rfl, rfl, gl_B_0 hy⟩)⟩
theorem i_vc (xs : Nat → Int32) (L : Nat) (hL : L ≤ 260) : wpL_law (fun r => r = 1) L xs := by
  unfold wpL_law
  refine gl_cellW (k := 0) hL (by omega) ?_
  refine nm_r (e' := nI (1 + (gl_cell L xs 0).toBitVec.toNat % 2 ^ 2)) ?_ ⟨by decide, nm_r (e' := nI (L / 2)) ?_ ?_⟩
  · rw [pk_and _ 2 (by decide)]
    exact nI_add 1 _
  · exact pk_div (d := 2) (by omega) (by omega) (by omega)
  · have h4 : (gl_cell L xs 0).toBitVec.toNat % 2 ^ 2 < 4 := Nat.mod_lt _ (by decide)
    exact pk_le (L / 2) 128 (fun h => gl_28 hL (by omega) (by omega) h) (fun h => gl_28 (nn := 128) hL (by omega) (by omega) (by omega))
