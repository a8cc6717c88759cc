/-! X: single transactions, sets of them, closures -/
section
variable {sl it : Int32} {b n c : Nat} {st : Nat → Int32} {pr rf : Nat → Int64} {lt li lk lv so : Nat → Int32}
theorem xo_isOpen {post : Int32 → Prop} {t : Nat} (ht : t ≤ 64) (h1 : gs_op (st t) → post 1) (h0 : ¬ gs_op (st t) → post 0) : wpX_isOpen post (sl, it, nI b, nI n, nI c, st, pr, rf, lt, li, lk, lv, so) (nI t) := by
  have hi : vp_in (nI t) 65 := vp_in_nI (by omega) (by omega)
  have hc : (nI t).toNatClampNeg = t := nI_clamp (by omega)
  unfold wpX_isOpen
  dsimp only
  rw [hc]
  exact ⟨hi, br_c (fun a => h1 (Or.inl a)) (fun a => ⟨hi, br_c (fun b => h1 (Or.inr (Or.inl b))) (fun b => ⟨hi, br_c (fun d => h1 (Or.inr (Or.inr d))) (fun d => h0 (fun z => z.elim a (fun z => z.elim b d)))⟩)⟩)⟩
theorem xo_isUnf {post : Int32 → Prop} {t : Nat} (ht : t ≤ 64) (h1 : gs_un (st t) → post 1) (h0 : ¬ gs_un (st t) → post 0) : wpX_isUnfinished post (sl, it, nI b, nI n, nI c, st, pr, rf, lt, li, lk, lv, so) (nI t) := by
  have hi : vp_in (nI t) 65 := vp_in_nI (by omega) (by omega)
  have hc : (nI t).toNatClampNeg = t := nI_clamp (by omega)
  unfold wpX_isUnfinished
  dsimp only
  rw [hc]
  exact ⟨hi, br_c (fun a => h1 (Or.inl a)) (fun a => ⟨hi, br_c (fun b => h1 (Or.inr b)) (fun b => h0 (fun z => z.elim a b))⟩)⟩
theorem xo_bit {post : Int64 → Prop} {t : Nat} (h1 : 1 ≤ t) (h2 : t ≤ 64) (hp : post (gs_bit t)) : wpX_bit post () (nI t) := by
  unfold wpX_bit
  rw [gs_bit_e h1 h2]
  exact hp
theorem xo_has {post : Int32 → Prop} {w : Int64} {t : Nat} (h1 : 1 ≤ t) (h2 : t ≤ 64) (p1 : gs_m w t → post 1) (p0 : ¬ gs_m w t → post 0) : wpX_contains post () w (nI t) := by
  unfold wpX_contains
  exact xo_bit h1 h2 (br_c (fun z => p0 ((gs_has h1 h2).mp z)) (fun z => p1 (Classical.byContradiction fun y => z ((gs_has h1 h2).mpr y))))
theorem xo_begun1 {post : Int32 → Prop} {t : Nat} (h1 : 1 ≤ t) (h2 : t ≤ b) (hb : b ≤ 64) (hp : post 1) : wpX_isBegun post (sl, it, nI b, nI n, nI c, st, pr, rf, lt, li, lk, lv, so) (nI t) :=
  br_f (fun h => by have := (nI_ltI (b := 1) (by omega) (by omega)).mp h; omega) (br_f (fun h => by have := (nI_ltI (by omega) (by omega)).mp h; omega) hp)
theorem xo_begun0 {post : Int32 → Prop} {t : Int32} (h : t < 1 ∨ (¬ t < 1 ∧ ¬ t ≤ nI b)) (hp : post 0) : wpX_isBegun post (sl, it, nI b, nI n, nI c, st, pr, rf, lt, li, lk, lv, so) t := by
  cases h with
  | inl h => exact br_t h hp
  | inr h => exact br_f h.1 (br_t (Int32.not_le.mp h.2) hp)
theorem xo_item1 {post : Int32 → Prop} {x : Int32} (h0 : ¬ x < 0) (h1 : x < it) (hp : post 1) : wpX_isItem post (sl, it, nI b, nI n, nI c, st, pr, rf, lt, li, lk, lv, so) x :=
  br_f h0 (br_f (Int32.not_le.mpr h1) hp)
theorem xo_item0 {post : Int32 → Prop} {x : Int32} (h : x < 0 ∨ ¬ x < it) (hp : post 0) : wpX_isItem post (sl, it, nI b, nI n, nI c, st, pr, rf, lt, li, lk, lv, so) x := by
  by_cases h0 : x < 0
  · exact br_t h0 hp
  · exact br_f h0 (br_t (Int32.not_lt.mp (h.resolve_left h0)) hp)
theorem xo_countOpen {post : Int32 → Prop} (hb : b ≤ 64) (hp : post (nI (gs_cnt (fun t => gs_op (st t)) b))) : wpX_countOpen post (sl, it, nI b, nI n, nI c, st, pr, rf, lt, li, lk, lv, so) := by
  unfold wpX_countOpen
  dsimp only
  refine pk_loop (σ := Nat) (fun m i s => wX_countOpen_4 post sl it (nI b) (nI n) (nI c) st pr rf lt li lk lv so m (nI s) (nI (i + 1))) (fun i s => s = gs_cnt (fun t => gs_op (st t)) i) b 0 0 (Nat.zero_le b) rfl ?_ ?_
  · intro m s hs
    subst hs
    exact pk_lt b (b + 1) (fun _ => hp) (fun h => absurd h (by omega))
  · intro m i s hi hs k
    refine pk_lt b (i + 1) (fun h => absurd h (by omega)) (fun _ => ?_)
    refine xo_isOpen (by omega) (fun h => ?_) (fun h => ?_)
    · exact br_f (by decide) (nm_r (nI_1 s) (nm_r (nI_1 (i + 1)) (k (s + 1) (by rw [hs, gs_cnt_t h]))))
    · exact br_t rfl (nm_r (nI_1 (i + 1)) (k s (by rw [hs, gs_cnt_f h])))
theorem xo_add1 {P : Nat → Prop} {s : Int64} {i : Nat} (hs : ∀ t, gs_m s t ↔ (1 ≤ t ∧ t ≤ i) ∧ P t) (hi : i + 1 ≤ 64) (h : P (i + 1)) (t : Nat) : gs_m (s ||| gs_bit (i + 1)) t ↔ (1 ≤ t ∧ t ≤ i + 1) ∧ P t := by
  rw [gs_m_or, hs t, gs_m_bit (by omega) hi]
  constructor
  · rintro (⟨h1, h2⟩ | rfl)
    · exact ⟨⟨h1.1, by omega⟩, h2⟩
    · exact ⟨⟨by omega, by omega⟩, h⟩
  · rintro ⟨h1, h2⟩
    by_cases e : t = i + 1
    · exact Or.inr e
    · exact Or.inl ⟨⟨h1.1, by omega⟩, h2⟩
theorem xo_add0 {P : Nat → Prop} {s : Int64} {i : Nat} (hs : ∀ t, gs_m s t ↔ (1 ≤ t ∧ t ≤ i) ∧ P t) (h : ¬ P (i + 1)) (t : Nat) : gs_m s t ↔ (1 ≤ t ∧ t ≤ i + 1) ∧ P t := by
  rw [hs t]
  constructor
  · rintro ⟨h1, h2⟩
    exact ⟨⟨h1.1, by omega⟩, h2⟩
  · rintro ⟨h1, h2⟩
    refine ⟨⟨h1.1, ?_⟩, h2⟩
    by_cases e : t = i + 1
    · rw [e] at h2
      exact absurd h2 h
    · omega
theorem xo_unfSet {post : Int64 → Prop} (hb : b ≤ 64) (hp : ∀ w, (∀ t, gs_m w t ↔ (1 ≤ t ∧ t ≤ b) ∧ gs_un (st t)) → post w) : wpX_unfinishedSet post (sl, it, nI b, nI n, nI c, st, pr, rf, lt, li, lk, lv, so) := by
  unfold wpX_unfinishedSet
  dsimp only
  refine pk_loop (σ := Int64) (fun m i s => wX_unfinishedSet_4 post sl it (nI b) (nI n) (nI c) st pr rf lt li lk lv so m s (nI (i + 1))) (fun i s => ∀ t, gs_m s t ↔ (1 ≤ t ∧ t ≤ i) ∧ gs_un (st t)) b 0 0 (Nat.zero_le b) ?_ ?_ ?_
  · exact fun t => ⟨fun h => absurd h (gs_m_0 t), fun h => absurd h.1 (by omega)⟩
  · intro m s hs
    exact pk_lt b (b + 1) (fun _ => hp s hs) (fun h => absurd h (by omega))
  · intro m i s hi hs k
    refine pk_lt b (i + 1) (fun h => absurd h (by omega)) (fun _ => ?_)
    refine xo_isUnf (by omega) (fun h => ?_) (fun h => ?_)
    · exact br_f (by decide) (xo_bit (by omega) (by omega) (nm_e (nm_r (nI_1 (i + 1)) (k _ (xo_add1 hs (by omega) h)))))
    · exact br_t rfl (nm_r (nI_1 (i + 1)) (k s (xo_add0 hs h)))
theorem xo_openSet {post : Int64 → Prop} (hb : b ≤ 64) (hp : ∀ w, (∀ t, gs_m w t ↔ (1 ≤ t ∧ t ≤ b) ∧ gs_op (st t)) → post w) : wpX_openSet post (sl, it, nI b, nI n, nI c, st, pr, rf, lt, li, lk, lv, so) := by
  unfold wpX_openSet
  dsimp only
  refine pk_loop (σ := Int64) (fun m i s => wX_openSet_4 post sl it (nI b) (nI n) (nI c) st pr rf lt li lk lv so m s (nI (i + 1))) (fun i s => ∀ t, gs_m s t ↔ (1 ≤ t ∧ t ≤ i) ∧ gs_op (st t)) b 0 0 (Nat.zero_le b) ?_ ?_ ?_
  · exact fun t => ⟨fun h => absurd h (gs_m_0 t), fun h => absurd h.1 (by omega)⟩
  · intro m s hs
    exact pk_lt b (b + 1) (fun _ => hp s hs) (fun h => absurd h (by omega))
  · intro m i s hi hs k
    refine pk_lt b (i + 1) (fun h => absurd h (by omega)) (fun _ => ?_)
    refine xo_isOpen (by omega) (fun h => ?_) (fun h => ?_)
    · exact br_f (by decide) (xo_bit (by omega) (by omega) (nm_e (nm_r (nI_1 (i + 1)) (k _ (xo_add1 hs (by omega) h)))))
    · exact br_t rfl (nm_r (nI_1 (i + 1)) (k s (xo_add0 hs h)))
theorem xo_withAnc {post : Int64 → Prop} {E : Nat → Nat → Prop} {w : Int64} (hb : b ≤ 64) (hE : gs_PE pr E) (hEb : ∀ s t, E s t → (1 ≤ s ∧ s ≤ b) ∧ (1 ≤ t ∧ t ≤ b)) (hS : ∀ s, gs_m w s → 1 ≤ s ∧ s ≤ b)
    (hp : ∀ w', (∀ s, gs_m w' s ↔ gs_Bk (gs_m w) E s) → post w') : wpX_withAncestors post (sl, it, nI b, nI n, nI c, st, pr, rf, lt, li, lk, lv, so) w := by
  have hL : ∀ s, gs_L (gs_m w) (fun t s => E s t) s → 1 ≤ s ∧ s ≤ b := fun s h => gs_L_i (A := fun s => 1 ≤ s ∧ s ≤ b) hS (fun t s _ hr => (hEb s t hr).1) h
  unfold wpX_withAncestors
  dsimp only
  refine pk_loop (σ := Int64) (fun m r s => wX_withAncestors_5 post sl it (nI b) (nI n) (nI c) st pr rf lt li lk lv so m s (nI r)) (fun r s => gs_Sat (gs_m w) (fun t s => E s t) b r (gs_m s)) b 0 w (Nat.zero_le b) (gs_sat0 _ _ b) ?_ ?_
  · intro m s hs
    exact pk_le b b (fun _ => hp s (gs_satE hL hs)) (fun h => absurd h (by omega))
  · intro m r s hr hs k
    refine pk_le b r (fun h => absurd h (by omega)) (fun _ => ?_)
    refine pk_loop (σ := Int64) (fun q i a => wX_withAncestors_17 post (wX_withAncestors_5 post sl it (nI b) (nI n) (nI c) st pr rf lt li lk lv so m) (nI r) sl it (nI b) (nI n) (nI c) st pr rf lt li lk lv so q a (nI (i + 1)))
      (fun i a => (∀ x, gs_m s x → gs_m a x) ∧ (∀ x, gs_m a x → gs_L (gs_m w) (fun t s => E s t) x) ∧ (∀ t x, 1 ≤ t → t ≤ i → gs_m s t → E x t → gs_m a x)) b 0 s (Nat.zero_le b) ?_ ?_ ?_
    · exact ⟨fun _ h => h, hs.2.1, fun t x h1 h2 => absurd h2 (by omega)⟩
    · intro q a ha
      exact pk_lt b (b + 1) (fun _ => nm_r (nI_1 r) (k a (gs_satS hL hs ha.1 ha.2.1 (fun t x ht hx => ha.2.2 t x (hEb x t hx).2.1 (hEb x t hx).2.2 ht hx)))) (fun h => absurd h (by omega))
    · intro q i a hi ha k'
      refine pk_lt b (i + 1) (fun h => absurd h (by omega)) (fun _ => ?_)
      refine xo_has (by omega) (by omega) (fun h => ?_) (fun h => ?_)
      · refine br_f (by decide) ⟨vp_in_nI (by omega) (by omega), nm_r (e' := a ||| pr (i + 1)) (by rw [nI_clamp (by omega)]) (nm_r (nI_1 (i + 1)) (k' _ ⟨?_, ?_, ?_⟩))⟩
        · exact fun x hx => (gs_m_or _ _ x).mpr (Or.inl (ha.1 x hx))
        · intro x hx
          cases (gs_m_or _ _ x).mp hx with
          | inl z => exact ha.2.1 x z
          | inr z => exact gs_L_s (ha.2.1 _ h) ((hE (i + 1) (by omega) (by omega) x).mp z)
        · intro t x h1 h2 ht hx
          by_cases e : t = i + 1
          · subst e
            exact (gs_m_or _ _ x).mpr (Or.inr ((hE _ (by omega) (by omega) x).mpr hx))
          · exact (gs_m_or _ _ x).mpr (Or.inl (ha.2.2 t x h1 (by omega) ht hx))
      · refine br_t rfl (nm_r (nI_1 (i + 1)) (k' a ⟨ha.1, ha.2.1, ?_⟩))
        intro t x h1 h2 ht hx
        by_cases e : t = i + 1
        · subst e
          exact absurd (ha.1 _ ht) h
        · exact ha.2.2 t x h1 (by omega) ht hx
/-- who is aborted with t -/
def gs_Dm (b : Nat) (F : Nat → Nat → Prop) (st : Nat → Int32) (t : Nat) : Nat → Prop := gs_L (fun s => s = t) (fun w u => (1 ≤ u ∧ u ≤ b) ∧ gs_un (st u) ∧ F u w)
theorem gs_Dm_in {b : Nat} {F : Nat → Nat → Prop} {st : Nat → Int32} {t : Nat} (h1 : 1 ≤ t) (h2 : t ≤ b) (s : Nat) (h : gs_Dm b F st t s) : 1 ≤ s ∧ s ≤ b :=
  gs_L_i (A := fun s => 1 ≤ s ∧ s ≤ b) (fun c e => by rw [e]; exact ⟨h1, h2⟩) (fun _ _ _ hr => hr.1) h
theorem xo_withRd {post : Int64 → Prop} {F : Nat → Nat → Prop} {t : Nat} (hb : b ≤ 64) (hF : gs_RF rf F) (h1 : 1 ≤ t) (h2 : t ≤ b)
    (hp : ∀ w', (∀ s, gs_m w' s ↔ gs_Dm b F st t s) → post w') : wpX_withReaders post (sl, it, nI b, nI n, nI c, st, pr, rf, lt, li, lk, lv, so) (nI t) := by
  have hL := gs_Dm_in (F := F) (st := st) h1 h2
  unfold gs_Dm at hL
  unfold wpX_withReaders
  dsimp only
  refine xo_bit h1 (by omega) ?_
  refine pk_loop (σ := Int64) (fun m r s => wX_withReaders_8 post sl it (nI b) (nI n) (nI c) st pr rf lt li lk lv so m s (nI r)) (fun r s => gs_Sat (fun s => s = t) (fun w u => (1 ≤ u ∧ u ≤ b) ∧ gs_un (st u) ∧ F u w) b r (gs_m s)) b 0 (gs_bit t) (Nat.zero_le b) ?_ ?_ ?_
  · exact ⟨fun s e => (gs_m_bit h1 (by omega) s).mpr e, fun s h => gs_L_b ((gs_m_bit h1 (by omega) s).mp h), Or.inr (Nat.zero_le _)⟩
  · intro m s hs
    exact pk_le b b (fun _ => hp s (gs_satE hL hs)) (fun h => absurd h (by omega))
  · intro m r s hr hs k
    refine pk_le b r (fun h => absurd h (by omega)) (fun _ => ?_)
    refine pk_loop (σ := Int64) (fun q i a => wX_withReaders_20 post (wX_withReaders_8 post sl it (nI b) (nI n) (nI c) st pr rf lt li lk lv so m) (nI r) sl it (nI b) (nI n) (nI c) st pr rf lt li lk lv so q a (nI (i + 1)))
      (fun i a => (∀ x, gs_m s x → gs_m a x) ∧ (∀ x, gs_m a x → gs_L (fun s => s = t) (fun w u => (1 ≤ u ∧ u ≤ b) ∧ gs_un (st u) ∧ F u w) x) ∧ (∀ w u, 1 ≤ u → u ≤ i → gs_m s w → gs_un (st u) → F u w → gs_m a u)) b 0 s (Nat.zero_le b) ?_ ?_ ?_
    · exact ⟨fun _ h => h, hs.2.1, fun w u a1 a2 => absurd a2 (by omega)⟩
    · intro q a ha
      exact pk_lt b (b + 1) (fun _ => nm_r (nI_1 r) (k a (gs_satS hL hs ha.1 ha.2.1 (fun w u hw hu => ha.2.2 w u hu.1.1 hu.1.2 hw hu.2.1 hu.2.2)))) (fun h => absurd h (by omega))
    · intro q i a hi ha k'
      refine pk_lt b (i + 1) (fun h => absurd h (by omega)) (fun _ => ?_)
      have hcl : (nI (i + 1)).toNatClampNeg = i + 1 := nI_clamp (by omega)
      refine xo_isUnf (by omega) (fun h => ?_) (fun h => ?_)
      · refine br_f (by decide) ⟨vp_in_nI (by omega) (by omega), ?_⟩
        rw [hcl]
        refine br_c (fun z => ?_) (fun z => ?_)
        · rw [gs_and0] at z
          refine nm_r (nI_1 (i + 1)) (k' a ⟨ha.1, ha.2.1, ?_⟩)
          intro w u u1 u2 hw hu hf
          by_cases e : u = i + 1
          · subst e
            exact absurd (ha.1 w hw) (z w ((hF _ (by omega) (by omega) w).mpr hf))
          · exact ha.2.2 w u u1 (by omega) hw hu hf
        · rw [gs_and0] at z
          have hx : ∃ w, gs_m (rf (i + 1)) w ∧ gs_m a w := Classical.byContradiction fun y => z (fun w w1 w2 => y ⟨w, w1, w2⟩)
          obtain ⟨w, w1, w2⟩ := hx
          refine xo_bit (by omega) (by omega) (nm_e (nm_r (nI_1 (i + 1)) (k' _ ⟨?_, ?_, ?_⟩)))
          · exact fun x hx => (gs_m_or _ _ x).mpr (Or.inl (ha.1 x hx))
          · intro x hx
            cases (gs_m_or _ _ x).mp hx with
            | inl y => exact ha.2.1 x y
            | inr y =>
              rw [(gs_m_bit (by omega) (by omega) x).mp y]
              exact gs_L_s (ha.2.1 w w2) ⟨⟨by omega, by omega⟩, h, (hF _ (by omega) (by omega) w).mp w1⟩
          · intro v u u1 u2 hv hu hf
            by_cases e : u = i + 1
            · exact (gs_m_or _ _ u).mpr (Or.inr ((gs_m_bit (by omega) (by omega) u).mpr e))
            · exact (gs_m_or _ _ u).mpr (Or.inl (ha.2.2 v u u1 (by omega) hv hu hf))
      · refine br_t rfl (nm_r (nI_1 (i + 1)) (k' a ⟨ha.1, ha.2.1, ?_⟩))
        intro w u u1 u2 hw hu hf
        by_cases e : u = i + 1
        · subst e
          exact absurd hu h
        · exact ha.2.2 w u u1 (by omega) hw hu hf
end
