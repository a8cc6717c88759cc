/-! the law's checks behind a step, from the last to the first -/
section
variable {post : Int32 → Prop} {L : Nat} {xs : Nat → Int32} {J61 : Int64 → Int64 → Int64 → Int64 → Int64 → Int64 → Int32 → Int32 → Int32 → Int32 → Int32 → Int32 → (Nat → Int32) → (Nat → Int64) → (Nat → Int64) → (Nat → Int32) → (Nat → Int32) → (Nat → Int32) → (Nat → Int32) → (Nat → Int32) → Prop} {J123 : Int64 → Int64 → Int64 → Int64 → Int64 → Int64 → Int64 → Int64 → Int64 → Int64 → Int64 → Int64 → Int64 → Int64 → Int32 → Int32 → Int32 → Int32 → Int32 → Int32 → Int32 → (Nat → Int32) → (Nat → Int64) → (Nat → Int64) → (Nat → Int32) → (Nat → Int32) → (Nat → Int32) → (Nat → Int32) → (Nat → Int32) → Prop} {hd : Int32} {y nn bl u i kc ks : Nat} {o a : Nat → Int64} {sn vl : Int64} {sl it : Int32} {b n c : Nat} {st : Nat → Int32} {pr rf : Nat → Int64} {lt li lk lv so : Nat → Int32} {T : Nat → Nat} {X K A : Nat → Int32} {F : Nat → Nat → Prop} {q : Nat → Nat}
theorem gl_1391 (h : gp_J b n c st so pr rf T X K lt li lk lv A F q) (hi : it = nI y) (hy : y ≤ 4) (act : Int32) (ha : act = 0 → ∀ t, 1 ≤ t → t ≤ b → st t = 4 ∨ st t = 5) (k : J123 (o 0) (o 1) (o 2) (o 3) sn vl (a 0) (a 1) (a 2) (a 3) (a 4) (a 5) (a 6) (a 7) (nI u) (nI (i + 1)) sl it (nI b) (nI n) (nI c) st pr rf lt li lk lv so) : ∃ fu, wL_law_1391 post L xs J61 J123 hd (nI y) (nI nn) (o 0) (o 1) (o 2) (o 3) sn vl (nI bl) (a 0) (a 1) (a 2) (a 3) (a 4) (a 5) (a 6) (a 7) (nI (14 * bl)) (nI u) (nI i) act kc ks sl it (nI b) (nI n) (nI c) st pr rf lt li lk lv so fu 0 := by
  obtain ⟨h0, hL, hK, hv, hE, hRF, hA, hS, hQ, hG, hR, hV⟩ := h
  refine pk_loop (σ := Unit) (fun m x _ => wL_law_1391 post L xs J61 J123 hd (nI y) (nI nn) (o 0) (o 1) (o 2) (o 3) sn vl (nI bl) (a 0) (a 1) (a 2) (a 3) (a 4) (a 5) (a 6) (a 7) (nI (14 * bl)) (nI u) (nI i) act kc ks sl it (nI b) (nI n) (nI c) st pr rf lt li lk lv so m (nI x)) (fun _ _ => True) y 0 () (Nat.zero_le y) trivial ?_ ?_
  · intro m _ _
    exact pk_le y y (fun _ => nm_r (nI_1 i) k) (fun h => absurd h (by omega))
  · intro m x _ hx _ k'
    refine pk_le y x (fun h => absurd h (by omega)) (fun _ => br_c (fun e => ?_) (fun e => nm_r (nI_1 i) k))
    refine gx_value hL h0.2.1 (by omega) hi hx (by omega) (gx_settledValue hL h0.2.1 (by omega) hi hx (by omega) (br_t ?_ (nm_r (nI_1 x) (k' () trivial))))
    have e2 : gs_lst (gs_Wr T X K st (nI x)) n = gs_lst (gs_Ws T X K st (nI x)) n := by
      refine gs_lst_c (fun j hj => ?_)
      have l := hL j hj
      unfold gs_Wr gs_Ws
      rcases ha e (T j) l.2.1 l.2.2.1 with z | z
      · rw [z]
        exact ⟨fun g => ⟨g.1, rfl⟩, fun g => ⟨g.1, by decide⟩⟩
      · rw [z]
        exact ⟨fun g => absurd rfl g.2, fun g => absurd g.2 (by decide)⟩
    rw [e2]
theorem gl_1306 (h : gp_J b n c st so pr rf T X K lt li lk lv A F q) (hi : it = nI y) (hy : y ≤ 4) (act : Int32) (ha : act = 0 → ∀ t, 1 ≤ t → t ≤ b → st t = 4 ∨ st t = 5) (hsn : ∀ t, 1 ≤ t → t ≤ b → (gs_m sn (t + 1) ↔ st t = 4)) (k : J123 (o 0) (o 1) (o 2) (o 3) sn vl (a 0) (a 1) (a 2) (a 3) (a 4) (a 5) (a 6) (a 7) (nI u) (nI (i + 1)) sl it (nI b) (nI n) (nI c) st pr rf lt li lk lv so) : ∃ fu, wL_law_1306 post L xs J61 J123 hd (nI y) (nI nn) (o 0) (o 1) (o 2) (o 3) sn vl (nI bl) (a 0) (a 1) (a 2) (a 3) (a 4) (a 5) (a 6) (a 7) (nI (14 * bl)) (nI u) (nI i) act kc ks sl it (nI b) (nI n) (nI c) st pr rf lt li lk lv so fu 1 := by
  have hb : b ≤ 64 := by have := h.1.1; omega
  refine pk_loop (σ := Unit) (fun m j _ => wL_law_1306 post L xs J61 J123 hd (nI y) (nI nn) (o 0) (o 1) (o 2) (o 3) sn vl (nI bl) (a 0) (a 1) (a 2) (a 3) (a 4) (a 5) (a 6) (a 7) (nI (14 * bl)) (nI u) (nI i) act kc ks sl it (nI b) (nI n) (nI c) st pr rf lt li lk lv so m (nI (j + 1))) (fun _ _ => True) 56 0 () (Nat.zero_le 56) trivial ?_ ?_
  · intro m _ _
    exact pk_lt 56 57 (fun _ => gl_1391 h hi hy act ha k) (fun h => absurd h (by omega))
  · intro m j _ hj _ k'
    refine pk_lt 56 (j + 1) (fun h => absurd h (by omega)) (fun _ => br_c (fun e => ?_) (fun e => gl_1391 h hi hy act ha k))
    refine gx_status hb (by omega) (fun t1 t2 => ?_) (fun _ => br_t rfl (nm_r (nI_1 (j + 1)) (k' () trivial)))
    have hs := hsn (j + 1) t1 t2
    rcases ha e (j + 1) t1 t2 with z | z
    · rw [z]
      refine br_f (by decide) (br_f (by decide) (br_f (by decide) (br_f (by decide) ?_)))
      unfold wL_law_1360
      rw [gp_bit (show j + 1 < 64 by omega)]
      refine br_f (fun y => y (hs.mpr z)) ?_
      unfold wL_law_1377
      exact br_f (by decide) (nm_r (nI_1 (j + 1)) (k' () trivial))
    · rw [z]
      refine br_f (by decide) (br_f (by decide) (br_f (by decide) (br_t rfl ?_)))
      unfold wL_law_1360
      rw [gp_bit (show j + 1 < 64 by omega)]
      refine br_t (fun y => ?_) ?_
      · have := hs.mp y
        rw [z] at this
        exact absurd this (by decide)
      · unfold wL_law_1377
        exact br_f (by decide) (nm_r (nI_1 (j + 1)) (k' () trivial))
theorem gl_1276 (h : gp_J b n c st so pr rf T X K lt li lk lv A F q) (hi : it = nI y) (hy : y ≤ 4) (hb56 : b ≤ 56) (hsn : ∀ t, 1 ≤ t → t ≤ b → (gs_m sn (t + 1) ↔ st t = 4)) (k : J123 (o 0) (o 1) (o 2) (o 3) sn vl (a 0) (a 1) (a 2) (a 3) (a 4) (a 5) (a 6) (a 7) (nI u) (nI (i + 1)) sl it (nI b) (nI n) (nI c) st pr rf lt li lk lv so) : ∃ fu, wL_law_1276 post L xs J61 J123 hd (nI y) (nI nn) (o 0) (o 1) (o 2) (o 3) sn vl (nI bl) (a 0) (a 1) (a 2) (a 3) (a 4) (a 5) (a 6) (a 7) (nI (14 * bl)) (nI u) (nI i) kc ks sl it (nI b) (nI n) (nI c) st pr rf lt li lk lv so fu 0 1 := by
  refine pk_loop (σ := Int32) (fun m j s => wL_law_1276 post L xs J61 J123 hd (nI y) (nI nn) (o 0) (o 1) (o 2) (o 3) sn vl (nI bl) (a 0) (a 1) (a 2) (a 3) (a 4) (a 5) (a 6) (a 7) (nI (14 * bl)) (nI u) (nI i) kc ks sl it (nI b) (nI n) (nI c) st pr rf lt li lk lv so m s (nI (j + 1))) (fun j s => s = 1 ∨ (s = 0 ∧ ∀ t, 1 ≤ t → t ≤ j → t ≤ b → ¬ st t = 1)) 56 0 0 (Nat.zero_le 56) (Or.inr ⟨rfl, fun t _ h2 => absurd h2 (by omega)⟩) ?_ ?_
  · intro m s hs
    refine pk_lt 56 57 (fun _ => gl_1306 h hi hy s (fun e => ?_) hsn k) (fun h => absurd h (by omega))
    rcases hs with z | z
    · rw [z] at e
      exact absurd e (by decide)
    · exact gp_done h (fun t t1 t2 => z.2 t t1 (by omega) t2)
  · intro m j s hj hs k'
    refine pk_lt 56 (j + 1) (fun h => absurd h (by omega)) (fun _ => ?_)
    have skip : (j + 1 ≤ b → ¬ st (j + 1) = 1) → wL_law_1276 post L xs J61 J123 hd (nI y) (nI nn) (o 0) (o 1) (o 2) (o 3) sn vl (nI bl) (a 0) (a 1) (a 2) (a 3) (a 4) (a 5) (a 6) (a 7) (nI (14 * bl)) (nI u) (nI i) kc ks sl it (nI b) (nI n) (nI c) st pr rf lt li lk lv so m s (nI (j + 1 + 1)) := by
      intro hx
      refine k' s (hs.imp id (fun z => ⟨z.1, fun t t1 t2 t3 => ?_⟩))
      by_cases e : t = j + 1
      · rw [e]
        exact hx (by omega)
      · exact z.2 t t1 (by omega) t3
    refine gx_status (by omega) (by omega) (fun t1 t2 => br_c (fun e => nm_r (nI_1 (j + 1)) (k' 1 (Or.inl rfl))) (fun e => nm_r (nI_1 (j + 1)) (skip (fun _ => e)))) (fun z => br_f (by decide) (nm_r (nI_1 (j + 1)) (skip (fun z' => absurd z' (by omega)))))
theorem gl_1151 (h : gp_J b n c st so pr rf T X K lt li lk lv A F q) (hLL : L ≤ 260) (hbl : bl < 4) (hi : it = nI y) (hy : y ≤ 4) (hb56 : b ≤ 56) (hsn : ∀ t, 1 ≤ t → t ≤ b → (gs_m sn (t + 1) ↔ st t = 4))
    (hrec : ∀ j, j < 32 → gp_w8 a j / 1024 ≠ 0 → F (14 * bl + gl_rel j (gl_c L xs (32 * bl + j))) (14 * bl + gp_w8 a j / 1024)) (k : J123 (o 0) (o 1) (o 2) (o 3) sn vl (a 0) (a 1) (a 2) (a 3) (a 4) (a 5) (a 6) (a 7) (nI u) (nI (i + 1)) sl it (nI b) (nI n) (nI c) st pr rf lt li lk lv so) : ∃ fu, wL_law_1151 post L xs J61 J123 hd (nI y) (nI nn) (o 0) (o 1) (o 2) (o 3) sn vl (nI bl) (a 0) (a 1) (a 2) (a 3) (a 4) (a 5) (a 6) (a 7) (nI (14 * bl)) (nI u) (nI i) kc ks sl it (nI b) (nI n) (nI c) st pr rf lt li lk lv so fu 0 := by
  refine pk_loop (σ := Unit) (fun m j _ => wL_law_1151 post L xs J61 J123 hd (nI y) (nI nn) (o 0) (o 1) (o 2) (o 3) sn vl (nI bl) (a 0) (a 1) (a 2) (a 3) (a 4) (a 5) (a 6) (a 7) (nI (14 * bl)) (nI u) (nI i) kc ks sl it (nI b) (nI n) (nI c) st pr rf lt li lk lv so m (nI j)) (fun _ _ => True) 32 0 () (Nat.zero_le 32) trivial ?_ ?_
  · intro m _ _
    exact pk_le 32 32 (fun _ => gl_1276 h hi hy hb56 hsn k) (fun h => absurd h (by omega))
  · intro m j _ hj _ k'
    have hw := gp_w8_lt a j
    have e10 : nI (gp_w8 a j) >>> ((10 : Int32) &&& 31) = nI (gp_w8 a j / 1024) := pk_shrN (by omega) _ 10 (by decide)
    refine pk_le 32 j (fun h => absurd h (by omega)) (fun _ => gp_sel hj (nm_r e10 ?_))
    have nx := k' () trivial
    refine pk_eq (gp_w8 a j / 1024) 0 (fun _ => nm_r (nI_1 j) nx) (fun ne => ?_)
    have hF := h.2.2.2.2.2.2.2.1.1 _ _ (hrec j hj ne)
    have h5 := h.2.2.2.2.2.2.2.1.2.2.1 _ _ (hrec j hj ne)
    rw [gl_ix2]
    refine gl_cellW hLL (by omega) ?_
    rw [gl_c_e]
    refine gl_relW (by omega) (gl_c_lt _ _ _) ?_
    have hr : gl_rel j (gl_c L xs (32 * bl + j)) < 100 := by unfold gl_rel; omega
    rw [nI_add, nI_add]
    refine gx_status (by omega) (by omega) (fun _ _ => gx_status (by omega) (by omega) (fun _ _ => ?_) (fun z => absurd z (by omega))) (fun z => absurd z (by omega))
    have fin : gp_fin (st (14 * bl + gl_rel j (gl_c L xs (32 * bl + j)))) → wL_law_1250 post L xs J61 J123 (wL_law_1151 post L xs J61 J123 hd (nI y) (nI nn) (o 0) (o 1) (o 2) (o 3) sn vl (nI bl) (a 0) (a 1) (a 2) (a 3) (a 4) (a 5) (a 6) (a 7) (nI (14 * bl)) (nI u) (nI i) kc ks sl it (nI b) (nI n) (nI c) st pr rf lt li lk lv so m) hd (nI y) (nI nn) (o 0) (o 1) (o 2) (o 3) sn vl (nI bl) (a 0) (a 1) (a 2) (a 3) (a 4) (a 5) (a 6) (a 7) (nI (14 * bl)) (nI u) (nI i) (nI j) (st (14 * bl + gp_w8 a j / 1024)) kc ks sl it (nI b) (nI n) (nI c) st pr rf lt li lk lv so := by
      intro hf
      unfold wL_law_1250
      rcases h5 hf with z | z
      · rw [z]
        exact br_t rfl (nm_r (nI_1 j) nx)
      · rw [z]
        exact br_f (by decide) (br_t rfl (nm_r (nI_1 j) nx))
    exact br_c (fun z => fin (Or.inl z)) (fun _ => br_c (fun z => fin (Or.inr z)) (fun _ => nm_r (nI_1 j) nx))
theorem gl_10x (x : Nat) : (10 : Int32) * nI x = nI (10 * x) := pk_mul 10 x
theorem gl_1111 (h : gp_J b n c st so pr rf T X K lt li lk lv A F q) (hLL : L ≤ 260) (hbl : bl < 4) (hi : it = nI y) (hy : y ≤ 4) (hb56 : b ≤ 56) (hsn : ∀ t, 1 ≤ t → t ≤ b → (gs_m sn (t + 1) ↔ st t = 4))
    (hvl : ∀ x, x < y → nI (gp_fd vl (10 * x) 10) = gp_sv q c n T X K lv (nI x)) (hrec : ∀ j, j < 32 → gp_w8 a j / 1024 ≠ 0 → F (14 * bl + gl_rel j (gl_c L xs (32 * bl + j))) (14 * bl + gp_w8 a j / 1024)) (k : J123 (o 0) (o 1) (o 2) (o 3) sn vl (a 0) (a 1) (a 2) (a 3) (a 4) (a 5) (a 6) (a 7) (nI u) (nI (i + 1)) sl it (nI b) (nI n) (nI c) st pr rf lt li lk lv so) : ∃ fu, wL_law_1111 post L xs J61 J123 hd (nI y) (nI nn) (o 0) (o 1) (o 2) (o 3) sn vl (nI bl) (a 0) (a 1) (a 2) (a 3) (a 4) (a 5) (a 6) (a 7) (nI (14 * bl)) (nI u) (nI i) kc ks sl it (nI b) (nI n) (nI c) st pr rf lt li lk lv so fu 0 := by
  refine pk_loop (σ := Unit) (fun m x _ => wL_law_1111 post L xs J61 J123 hd (nI y) (nI nn) (o 0) (o 1) (o 2) (o 3) sn vl (nI bl) (a 0) (a 1) (a 2) (a 3) (a 4) (a 5) (a 6) (a 7) (nI (14 * bl)) (nI u) (nI i) kc ks sl it (nI b) (nI n) (nI c) st pr rf lt li lk lv so m (nI x)) (fun _ _ => True) y 0 () (Nat.zero_le y) trivial ?_ ?_
  · intro m _ _
    exact pk_le y y (fun _ => gl_1151 h hLL hbl hi hy hb56 hsn hrec k) (fun h => absurd h (by omega))
  · intro m x _ hx _ k'
    refine pk_le y x (fun h => absurd h (by omega)) (fun _ => ?_)
    refine gx_settledValue h.2.1 h.1.2.1 (by have := h.1.1; omega) hi hx (by omega) ?_
    rw [gl_10x, gp_get10 (show 10 * x < 64 by omega)]
    exact br_t ((gp_R3 h (nI x)).trans (hvl x hx).symm) (nm_r (nI_1 x) (k' () trivial))
end
