/-! the calls keep the invariants -/
def gp_J (b n c : Nat) (st so : Nat → Int32) (pr rf : Nat → Int64) (T : Nat → Nat) (X K lt li lk lv A : Nat → Int32) (F : Nat → Nat → Prop) (q : Nat → Nat) : Prop :=
  (b < 64 ∧ n ≤ 128 ∧ c ≤ 64) ∧ gs_Lg n b T X K lt li lk ∧ (∀ j, j < n → K j = 1 ∨ K j = 2 ∨ K j = 3) ∧ (∀ j, j < n → ∃ v, v < 1000 ∧ lv j = nI v) ∧ gs_PE pr (gs_E n T X K st) ∧ gs_RF rf F ∧ (∀ z, ¬ gs_Pl (gs_E n T X K st) z z) ∧
    gp_S b (gs_E n T X K st) F st ∧ gp_Q b (gs_E n T X K st) st so c q ∧ (∀ t, 1 ≤ t → t ≤ b → ¬ gs_Go F st t) ∧ (∀ t, 1 ≤ t → t ≤ b → ¬ gs_Rd (gs_E n T X K st) st t) ∧ gp_V n T X K lv A st F
theorem gp_Eb {n b : Nat} {T : Nat → Nat} {X K lt li lk st : Nat → Int32} (hL : gs_Lg n b T X K lt li lk) (s t : Nat) (h : gs_E n T X K st s t) : (1 ≤ s ∧ s ≤ b) ∧ (1 ≤ t ∧ t ≤ b) := ⟨(gs_E_in hL h).1, (gs_E_in hL h).2.1⟩
theorem gp_Ee {n : Nat} {T : Nat → Nat} {X K st st' : Nat → Int32} (h : ∀ s, st' s = 5 ↔ st s = 5) : gs_E n T X K st' = gs_E n T X K st := funext fun s => funext fun t => propext (gs_E_c h s t)
theorem gp_EA {n b : Nat} {T : Nat → Nat} {X K st : Nat → Int32} {D : Nat → Prop} (hD : ∀ j, D j → 1 ≤ j ∧ j ≤ b) : gs_E n T X K (gs_abs D st b) = gs_EA (gs_E n T X K st) D :=
  funext fun s => funext fun t => propext (gs_E_ab (gs_abs_5 hD) s t)
section
variable {b n c : Nat} {st so : Nat → Int32} {pr rf : Nat → Int64} {T : Nat → Nat} {X K lt li lk lv A : Nat → Int32} {F : Nat → Nat → Prop} {q : Nat → Nat}
theorem gp_J_set {p : Nat → Int64} {E1 : Nat → Nat → Prop} {st1 : Nat → Int32} (h0 : b < 64 ∧ n ≤ 128 ∧ c ≤ 64) (hL : gs_Lg n b T X K lt li lk) (hK : ∀ j, j < n → K j = 1 ∨ K j = 2 ∨ K j = 3) (hv : ∀ j, j < n → ∃ v, v < 1000 ∧ lv j = nI v)
    (hE1 : E1 = gs_E n T X K st1) (hE : gs_PE p E1) (hRF : gs_RF rf F) (hA : ∀ z, ¬ gs_Pl E1 z z) (hS : gp_S b E1 F st1) (hQ : gp_Q b E1 st1 so c q) (hG : ∀ t, 1 ≤ t → t ≤ b → ¬ gs_Go F st1 t) (hV : gp_V n T X K lv A st1 F)
    {g : (Nat → Int32) × (Nat → Int32) × Nat} (hg : g = gs_set b E1 (64 - c) st1 so c) :
    ∃ q', gp_J b n g.2.2 g.1 g.2.1 p rf T X K lt li lk lv A F q' ∧ gp_st b st1 g.1 ∧ c ≤ g.2.2 ∧ (∀ k, k < c → q' k = q k) := by
  obtain ⟨q', g1, g2, g3, g4, g5, g6, g7, g8, g9⟩ := gp_setA h0.1 (64 - c) st1 so c q (by omega) hS hQ (fun s t h => by rw [hE1] at h; exact ⟨(gs_E_in hL h).1, (gs_E_in hL h).2.2.1⟩) hG
  have q2 := (gs_set_ab b E1 (64 - c) st1 so c).2
  rw [← hg] at g1 g2 g3 g4 g5 g6 g7 g8 q2
  have e : gs_E n T X K g.1 = E1 := by
    rw [hE1]
    exact gp_Ee g5
  refine ⟨q', ⟨⟨h0.1, h0.2.1, by omega⟩, hL, hK, hv, ?_, hRF, ?_, ?_, ?_, g3, ?_, gp_V_mono hL hV (fun s _ _ => g5 s) (fun s _ _ => g6 s)⟩, g7, g8, g9⟩
  · rw [e]; exact hE
  · rw [e]; exact hA
  · rw [e]; exact g1
  · rw [e]; exact g2
  · rw [e]; exact g4
theorem gp_Dm_un {t : Nat} (h : gs_un (st t)) (s : Nat) (hs : gs_Dm b F st t s) : gs_un (st s) :=
  gs_L_i (A := fun s => gs_un (st s)) (fun c e => by rw [e]; exact h) (fun _ _ _ hr => hr.2.1) hs
theorem gp_J_ab {t : Nat} (h : gp_J b n c st so pr rf T X K lt li lk lv A F q) (h1 : 1 ≤ t) (h2 : t ≤ b) (hu : gs_un (st t)) {p : Nat → Int64} {D : Nat → Prop} (hD : D = gs_Dm b F st t) {E1 : Nat → Nat → Prop} (hE1 : E1 = gs_EA (gs_E n T X K st) D) (hp : gs_PE p E1)
    {g : (Nat → Int32) × (Nat → Int32) × Nat} (hg : g = gs_set b E1 (64 - c) (gs_abs D st b) so c) :
    ∃ q', gp_J b n g.2.2 g.1 g.2.1 p rf T X K lt li lk lv A F q' ∧ gp_st b st g.1 ∧ c ≤ g.2.2 ∧ (∀ k, k < c → q' k = q k) := by
  obtain ⟨h0, hL, hK, hv, hE, hRF, hA, hS, hQ, hG, hR, hV⟩ := h
  have hDb : ∀ j, D j → 1 ≤ j ∧ j ≤ b := by rw [hD]; exact gs_Dm_in h1 h2
  have hDu : ∀ j, D j → gs_un (st j) := by rw [hD]; exact gp_Dm_un hu
  have hDc : ∀ u w, F u w → gs_un (st u) → D w → D u := by
    intro u w hf hu hw
    rw [hD] at hw ⊢
    exact gs_L_s hw ⟨(hS.1 u w hf).1, hu, hf⟩
  have h5 := gs_abs_5 (st := st) hDb
  have hno : ∀ s, ¬ D s → gs_abs D st b s = st s := fun s hs => gs_abs_f (fun z => hs z.2.2)
  have hyes : ∀ s, D s → gs_abs D st b s = 5 := fun s hs => gs_abs_t ⟨(hDb s hs).1, (hDb s hs).2, hs⟩
  have hfin : ∀ s, gp_fin (gs_abs D st b s) → gp_fin (st s) ∧ ¬ D s := by
    intro s hs
    by_cases d : D s
    · rw [hyes s d] at hs
      exact absurd rfl (gp_fin_5 hs)
    · rw [hno s d] at hs
      exact ⟨hs, d⟩
  have hst : gp_st b st (gs_abs D st b) := by
    intro s _ _
    by_cases d : D s
    · rw [hyes s d]
      refine ⟨fun z => ?_, fun _ => rfl, fun z => absurd z (by decide)⟩
      have := hDu s d
      rw [z] at this
      exact absurd this (by unfold gs_un; decide)
    · rw [hno s d]
      exact ⟨fun z => z, fun z => z, fun z => z⟩
  have h4 : ∀ s, gs_abs D st b s = 4 ↔ st s = 4 := by
    intro s
    by_cases d : D s
    · rw [hyes s d]
      refine ⟨fun z => absurd z (by decide), fun z => ?_⟩
      have := hDu s d
      rw [z] at this
      exact absurd this (by unfold gs_un; decide)
    · rw [hno s d]
  have hS1 : gp_S b E1 F (gs_abs D st b) := by
    refine ⟨?_, ?_, ?_, ?_⟩
    · intro u w hf
      have g := hS.1 u w hf
      refine ⟨g.1, g.2.1, fun a d => ?_⟩
      rw [hE1]
      exact ⟨g.2.2 (fun z => a ((h5 w).mpr (Or.inl z))) (fun z => d ((h5 u).mpr (Or.inl z))), fun z => a ((h5 w).mpr (Or.inr z)), fun z => d ((h5 u).mpr (Or.inr z))⟩
    · intro u w hf a
      rcases (h5 w).mp a with z | z
      · exact (h5 u).mpr (Or.inl (hS.2.1 u w hf z))
      · rcases gp_bs_c (hS.2.2.2 u (hS.1 u w hf).1.1 (hS.1 u w hf).1.2) with y | y | y
        · exact (h5 u).mpr (Or.inr (hDc u w hf y z))
        · exact absurd (hDu w z) (gp_fin_un (hS.2.2.1 u w hf y))
        · exact (h5 u).mpr (Or.inl y)
    · intro u w hf a
      have g := hS.2.2.1 u w hf (hfin u a).1
      rw [hno w (fun d => gp_fin_un g (hDu w d))]
      exact g
    · intro u u1 u2
      by_cases d : D u
      · rw [hyes u d]
        exact Or.inr (Or.inr (Or.inr (Or.inr rfl)))
      · rw [hno u d]
        exact hS.2.2.2 u u1 u2
  have hQ1 : gp_Q b E1 (gs_abs D st b) so c q := by
    refine ⟨?_, ?_, hQ.2.2.1, ?_, ?_⟩
    · rw [hQ.1]
      exact gs_cnt_c (fun s _ _ => (h4 s).symm)
    · exact fun k hk => ⟨(hQ.2.1 k hk).1, (hQ.2.1 k hk).2.1, (h4 _).mpr (hQ.2.1 k hk).2.2⟩
    · exact fun u u1 u2 z => hQ.2.2.2.1 u u1 u2 ((h4 u).mp z)
    · intro k hk s hs
      rw [hE1] at hs
      exact hQ.2.2.2.2 k hk s hs.1
  have hG1 : ∀ u, 1 ≤ u → u ≤ b → ¬ gs_Go F (gs_abs D st b) u := by
    intro u u1 u2 g
    have nd : ¬ D u := fun d => by
      have := g.1
      rw [hyes u d] at this
      exact absurd this (by decide)
    have e2 : st u = 2 := by
      rw [← hno u nd]
      exact g.1
    refine hG u u1 u2 ⟨e2, fun w hf hw => ?_⟩
    refine g.2 w hf ?_
    rw [hno w (fun d => nd (hDc u w hf (Or.inr e2) d))]
    exact hw
  have hV1 := gp_V_ab hL hK hS hV hDu hDc h5 hno
  obtain ⟨q', j1, j2, j3, j4⟩ := gp_J_set (p := p) h0 hL hK hv (by rw [hE1]; exact (gp_EA hDb).symm) hp hRF (by rw [hE1]; exact gs_acm (fun s u z => z.1) hA) hS1 hQ1 hG1 hV1 hg
  exact ⟨q', j1, gp_st_t hst j2, j3, j4⟩
/-- a commit that waits for nobody -/
theorem gp_all {st1 s : Nat → Int32} {k : Nat} (hk : gs_Wy b F st1 k s) (hs : ∀ t, 1 ≤ t → t ≤ b → ¬ gs_Go F s t) (j : Nat) (hj : gs_Cm b F st1 j) : s j = 3 := by
  refine hj (fun j => s j = 3) ?_
  intro t h1 h2 ht hw
  cases hk.1 t with
  | inr e => exact e.2.2.2.2
  | inl e =>
    refine absurd ⟨e.trans ht, fun w hF hu => ?_⟩ (hs t h1 h2)
    cases hk.1 w with
    | inl e' =>
      have h3 : s w = 3 := hw w hF (e' ▸ hu)
      rw [h3] at hu
      exact absurd hu (by unfold gs_un; decide)
    | inr e' =>
      rw [e'.2.2.2.2] at hu
      exact absurd hu (by unfold gs_un; decide)
theorem gp_Cm_inv {st1 : Nat → Int32} {x : Nat} (h : gs_Cm b F st1 x) : ∀ w, F x w → gs_un (st1 w) → gs_Cm b F st1 w := by
  refine (h (fun x => gs_Cm b F st1 x ∧ ∀ w, F x w → gs_un (st1 w) → gs_Cm b F st1 w) ?_).2
  intro t h1 h2 ht hw
  exact ⟨fun A hA => hA t h1 h2 ht (fun w a d => (hw w a d).1 A hA), fun w a d => (hw w a d).1⟩
theorem gp_J_cm {t : Nat} (h : gp_J b n c st so pr rf T X K lt li lk lv A F q) (h1 : 1 ≤ t) (h2 : t ≤ b) (ht : st t = 1) (hw : ∀ w, F t w → ¬ gs_un (st w)) {k : Nat} {s : Nat → Int32} (hk : gs_Wy b F (upd st t 3) k s) (hs : ∀ t, 1 ≤ t → t ≤ b → ¬ gs_Go F s t)
    {g : (Nat → Int32) × (Nat → Int32) × Nat} (hg : g = gs_set b (gs_E n T X K st) (64 - c) s so c) :
    ∃ q', gp_J b n g.2.2 g.1 g.2.1 pr rf T X K lt li lk lv A F q' ∧ gp_st b st g.1 ∧ c ≤ g.2.2 ∧ (∀ k, k < c → q' k = q k) ∧ ¬ g.1 t = 1 := by
  obtain ⟨h0, hL, hK, hv, hE, hRF, hA, hS, hQ, hG, hR, hV⟩ := h
  have c5 : ∀ x, upd st t 3 x = 5 ↔ st x = 5 := by
    intro x
    by_cases e : x = t
    · rw [e, pk_us, ht]
      decide
    · rw [pk_un e]
  have h5 : ∀ x, s x = 5 ↔ st x = 5 := fun x => (gs_wy_ab hk x).trans (c5 x)
  have hst : s t = 3 := by
    cases hk.1 t with
    | inl e => rw [e, pk_us]
    | inr e => exact e.2.2.2.2
  have hx : ∀ x, x ≠ t → s x = st x ∨ (st x = 2 ∧ gs_Cm b F (upd st t 3) x ∧ s x = 3) := by
    intro x e
    cases hk.1 x with
    | inl z => exact Or.inl (by rw [z, pk_un e])
    | inr z => exact Or.inr ⟨by rw [← z.1, pk_un e], z.2.2.2.1, z.2.2.2.2⟩
  have h4 : ∀ x, s x = 4 ↔ st x = 4 := by
    intro x
    by_cases e : x = t
    · rw [e, hst, ht]
      decide
    · rcases hx x e with z | z
      · rw [z]
      · rw [z.2.2, z.1]
        decide
  have hf : ∀ x, gp_fin (st x) → gp_fin (s x) := by
    intro x z
    by_cases e : x = t
    · rw [e, hst]
      exact Or.inl rfl
    · rcases hx x e with y | y
      · rw [y]
        exact z
      · rw [y.2.2]
        exact Or.inl rfl
  have hS1 : gp_S b (gs_E n T X K st) F s := by
    refine ⟨?_, ?_, ?_, ?_⟩
    · intro u w hF
      have g := hS.1 u w hF
      exact ⟨g.1, g.2.1, fun a d => g.2.2 (fun z => a ((h5 w).mpr z)) (fun z => d ((h5 u).mpr z))⟩
    · exact fun u w hF a => (h5 u).mpr (hS.2.1 u w hF ((h5 w).mp a))
    · intro u w hF a
      have gw := (hS.1 u w hF).2.1
      have nof : ¬ st u = 5 := fun z => gp_fin_5 a ((h5 u).mpr z)
      have nw : ¬ st w = 5 := fun z => nof (hS.2.1 u w hF z)
      by_cases e : u = t
      · rw [e] at hF
        rcases gp_bs_c (hS.2.2.2 w gw.1 gw.2) with y | y | y
        · exact absurd y (hw w hF)
        · exact hf w y
        · exact absurd y nw
      · rcases hx u e with y | y
        · rw [y] at a
          exact hf w (hS.2.2.1 u w hF a)
        · rcases gp_bs_c (hS.2.2.2 w gw.1 gw.2) with z | z | z
          · by_cases ew : w = t
            · rw [ew, hst]
              exact Or.inl rfl
            · have cw := gp_Cm_inv y.2.1 w hF (by rw [pk_un ew]; exact z)
              rw [gp_all hk hs w cw]
              exact Or.inl rfl
          · exact hf w z
          · exact absurd z nw
    · intro u u1 u2
      by_cases e : u = t
      · rw [e, hst]
        exact Or.inr (Or.inr (Or.inl rfl))
      · rcases hx u e with y | y
        · rw [y]
          exact hS.2.2.2 u u1 u2
        · rw [y.2.2]
          exact Or.inr (Or.inr (Or.inl rfl))
  have hQ1 : gp_Q b (gs_E n T X K st) s so c q := by
    refine ⟨?_, ?_, hQ.2.2.1, ?_, hQ.2.2.2.2⟩
    · rw [hQ.1]
      exact gs_cnt_c (fun x _ _ => (h4 x).symm)
    · exact fun k hk => ⟨(hQ.2.1 k hk).1, (hQ.2.1 k hk).2.1, (h4 _).mpr (hQ.2.1 k hk).2.2⟩
    · exact fun u u1 u2 z => hQ.2.2.2.1 u u1 u2 ((h4 u).mp z)
  have hst1 : gp_st b st s := by
    intro x _ _
    refine ⟨(h4 x).mpr, (h5 x).mpr, fun z => ?_⟩
    by_cases e : x = t
    · rw [e]
      exact ht
    · rcases hx x e with y | y
      · rw [← y]
        exact z
      · rw [y.2.2] at z
        exact absurd z (by decide)
  obtain ⟨q', j1, j2, j3, j4⟩ := gp_J_set (p := pr) h0 hL hK hv (gp_Ee h5).symm hE hRF hA hS1 hQ1 hs (gp_V_mono hL hV (fun x _ _ => h5 x) (fun x _ _ => hf x)) hg
  refine ⟨q', j1, gp_st_t hst1 j2, j3, j4, fun z => ?_⟩
  have := (j2 t h1 h2).2.2 z
  rw [hst] at this
  exact absurd this (by decide)
/-- a commit that waits -/
theorem gp_J_wt {t : Nat} (h : gp_J b n c st so pr rf T X K lt li lk lv A F q) (h1 : 1 ≤ t) (h2 : t ≤ b) (ht : st t = 1) (hw : ∃ w, F t w ∧ gs_un (st w)) : gp_J b n c (upd st t 2) so pr rf T X K lt li lk lv A F q ∧ gp_st b st (upd st t 2) := by
  obtain ⟨h0, hL, hK, hv, hE, hRF, hA, hS, hQ, hG, hR, hV⟩ := h
  have c5 : ∀ x, upd st t 2 x = 5 ↔ st x = 5 := by
    intro x
    by_cases e : x = t
    · rw [e, pk_us, ht]
      decide
    · rw [pk_un e]
  have c4 : ∀ x, upd st t 2 x = 4 ↔ st x = 4 := by
    intro x
    by_cases e : x = t
    · rw [e, pk_us, ht]
      decide
    · rw [pk_un e]
  have cf : ∀ x, gp_fin (upd st t 2 x) ↔ gp_fin (st x) := by
    intro x
    by_cases e : x = t
    · rw [e, pk_us, ht]
      unfold gp_fin
      decide
    · rw [pk_un e]
  have cu : ∀ x, gs_un (upd st t 2 x) ↔ gs_un (st x) := by
    intro x
    by_cases e : x = t
    · rw [e, pk_us, ht]
      unfold gs_un
      decide
    · rw [pk_un e]
  have co : ∀ x, gs_op (upd st t 2 x) ↔ gs_op (st x) := by
    intro x
    by_cases e : x = t
    · rw [e, pk_us, ht]
      unfold gs_op
      decide
    · rw [pk_un e]
  have eE : gs_E n T X K (upd st t 2) = gs_E n T X K st := gp_Ee c5
  refine ⟨⟨h0, hL, hK, hv, ?_, hRF, ?_, ⟨?_, ?_, ?_, ?_⟩, ⟨?_, ?_, hQ.2.2.1, ?_, ?_⟩, ?_, ?_, gp_V_mono hL hV (fun x _ _ => c5 x) (fun x _ _ => (cf x).mpr)⟩, ?_⟩
  · rw [eE]; exact hE
  · rw [eE]; exact hA
  · intro u w hF
    have g := hS.1 u w hF
    rw [eE]
    exact ⟨g.1, g.2.1, fun a d => g.2.2 (fun z => a ((c5 w).mpr z)) (fun z => d ((c5 u).mpr z))⟩
  · exact fun u w hF a => (c5 u).mpr (hS.2.1 u w hF ((c5 w).mp a))
  · exact fun u w hF a => (cf w).mpr (hS.2.2.1 u w hF ((cf u).mp a))
  · intro u u1 u2
    by_cases e : u = t
    · rw [e, pk_us]
      exact Or.inr (Or.inl rfl)
    · rw [pk_un e]
      exact hS.2.2.2 u u1 u2
  · rw [hQ.1]
    exact gs_cnt_c (fun x _ _ => (c4 x).symm)
  · exact fun k hk => ⟨(hQ.2.1 k hk).1, (hQ.2.1 k hk).2.1, (c4 _).mpr (hQ.2.1 k hk).2.2⟩
  · exact fun u u1 u2 z => hQ.2.2.2.1 u u1 u2 ((c4 u).mp z)
  · rw [eE]; exact hQ.2.2.2.2
  · intro u u1 u2 g
    by_cases e : u = t
    · subst e
      obtain ⟨w, w1, w2⟩ := hw
      exact g.2 w w1 ((cu w).mpr w2)
    · have g1 := g.1
      rw [pk_un e] at g1
      exact hG u u1 u2 ⟨g1, fun w a d => g.2 w a ((cu w).mpr d)⟩
  · rw [eE]
    intro u u1 u2 g
    have g1 := g.1
    by_cases e : u = t
    · rw [e, pk_us] at g1
      exact absurd g1 (by decide)
    · rw [pk_un e] at g1
      exact hR u u1 u2 ⟨g1, fun s a d => g.2 s a ((co s).mpr d)⟩
  · intro x _ _
    refine ⟨(c4 x).mpr, (c5 x).mpr, fun z => ?_⟩
    by_cases e : x = t
    · rw [e]
      exact ht
    · rw [pk_un e] at z
      exact z
end
