/-! the last two -/
theorem i_vc_settledAt {k : Nat} {u : SX} {v : SY} (I : i_Rel k u v) (hk : k + 4 ≤ 2050) (v1 : Int32) : wpX_settledAt (fun r => wpY_settledAt (fun r' => r' = r ∧ i_Rel (k + 4) u v) v v1) u v1 := by
  have I' : i_Rel (k + 4) u v := I
  obtain ⟨sl, it, b, n, c, f, st, so, pr, rf, T, X, K, lt, li, lk, lv, lt', li', lk', lv', R, S, rd, sr, mk, rfl, rfl, hI⟩ := I
  have hc := hI.2.2.1
  unfold wpX_settledAt wpY_settledAt
  dsimp only
  refine br_c (fun h => br_t h ⟨rfl, I'⟩) (fun h => ?_)
  refine br_c (fun e => br_f h (br_t e ⟨rfl, I'⟩)) (fun e => ?_)
  have hin : vp_in v1 64 := by
    obtain ⟨j, hj, rfl⟩ := nI_of h
    have : j < c := (nI_ltI hj (by omega)).mp (Int32.not_le.mp e)
    exact vp_in_nI (by omega) (by omega)
  exact ⟨hin, br_f h (br_f e ⟨hin, rfl, I'⟩)⟩
theorem i_vc_opsLeft {k : Nat} {u : SX} {v : SY} (I : i_Rel k u v) (hk : k + 4 ≤ 2050) : wpX_opsLeft (fun r => wpY_opsLeft (fun r' => r' = r ∧ i_Rel (k + 4) u v) v) u := by
  have I' : i_Rel (k + 4) u v := I
  obtain ⟨sl, it, b, n, c, f, st, so, pr, rf, T, X, K, lt, li, lk, lv, lt', li', lk', lv', R, S, rd, sr, mk, rfl, rfl, hI⟩ := I
  unfold wpX_opsLeft wpY_opsLeft
  exact ⟨rfl, I'⟩
