/-! X: settling, aborting, committing -/
section
variable {sl it : Int32} {b n c : Nat} {st : Nat → Int32} {pr rf : Nat → Int64} {lt li lk lv so : Nat → Int32}
theorem xo_firstSet {post : Int32 → Prop} {E : Nat → Nat → Prop} (hb : b ≤ 64) (hE : gs_PE pr E) (hEb : ∀ s t, E s t → (1 ≤ s ∧ s ≤ b) ∧ (1 ≤ t ∧ t ≤ b)) (hp : post (nI (gs_nx b E st))) : wpX_firstSettleable post (sl, it, nI b, nI n, nI c, st, pr, rf, lt, li, lk, lv, so) := by
  unfold wpX_firstSettleable
  dsimp only
  refine xo_openSet hb (fun w hw => ?_)
  refine pk_loop (σ := Unit) (fun m i _ => wX_firstSettleable_7 post w sl it (nI b) (nI n) (nI c) st pr rf lt li lk lv so m (nI (i + 1))) (fun i _ => gs_fst (gs_Rd E st) (b - i) (i + 1) = gs_nx b E st) b 0 () (Nat.zero_le b) rfl ?_ ?_
  · intro m _ hs
    refine pk_lt b (b + 1) (fun _ => ?_) (fun h => absurd h (by omega))
    rw [Nat.sub_self] at hs
    rw [← hs] at hp
    exact hp
  · intro m i _ hi hs k
    refine pk_lt b (i + 1) (fun h => absurd h (by omega)) (fun _ => ?_)
    have hcl : (nI (i + 1)).toNatClampNeg = i + 1 := nI_clamp (by omega)
    have hin : vp_in (nI (i + 1)) 65 := vp_in_nI (by omega) (by omega)
    rw [show b - i = (b - (i + 1)) + 1 by omega] at hs
    refine ⟨hin, ?_⟩
    rw [hcl]
    refine br_c (fun h3 => ⟨hin, ?_⟩) (fun h3 => ?_)
    · refine br_c (fun z => ?_) (fun z => ?_)
      · rw [gs_and0] at z
        have hr : gs_Rd E st (i + 1) := ⟨h3, fun s hs ho => z s ((hE _ (by omega) (by omega) s).mpr hs) ((hw s).mpr ⟨(hEb s _ hs).1, ho⟩)⟩
        rw [gs_fst_t hr] at hs
        rw [← hs] at hp
        exact hp
      · rw [gs_and0] at z
        have hr : ¬ gs_Rd E st (i + 1) := fun r => z (fun s s1 s2 => r.2 s ((hE _ (by omega) (by omega) s).mp s1) ((hw s).mp s2).2)
        rw [gs_fst_f hr] at hs
        exact nm_r (nI_1 (i + 1)) (k () hs)
    · have hr : ¬ gs_Rd E st (i + 1) := fun r => h3 r.1
      rw [gs_fst_f hr] at hs
      exact nm_r (nI_1 (i + 1)) (k () hs)
end
section
variable {sl it : Int32} {b n : Nat} {pr rf : Nat → Int64} {lt li lk lv : Nat → Int32}
theorem xo_settleW {post : St2 → Prop} {E : Nat → Nat → Prop} (hb : b ≤ 64) (hE : gs_PE pr E) (hEb : ∀ s t, E s t → (1 ≤ s ∧ s ≤ b) ∧ (1 ≤ t ∧ t ≤ b)) (d : Nat) : ∀ (c : Nat) (st so : Nat → Int32), c + d = 64 →
    post (sl, it, nI b, nI n, nI ((gs_set b E d st so c).2.2), (gs_set b E d st so c).1, pr, rf, lt, li, lk, lv, (gs_set b E d st so c).2.1) → wX_settle_5 post sl it (nI b) (nI n) (d + 1) (nI c) (nI c) st pr rf lt li lk lv so := by
  induction d with
  | zero =>
    intro c st so hc hp
    exact pk_le 64 c (fun _ => hp) (fun h => absurd h (by omega))
  | succ d ih =>
    intro c st so hc hp
    refine pk_le 64 c (fun h => absurd h (by omega)) (fun _ => ?_)
    refine xo_firstSet hb hE hEb ?_
    by_cases e : gs_nx b E st = 0
    · rw [gs_set_0 e] at hp
      rw [e]
      exact br_t rfl hp
    · have h := (gs_nx_or b E st).resolve_left e
      rw [gs_set_s e] at hp
      have hcl : (nI (gs_nx b E st)).toNatClampNeg = gs_nx b E st := nI_clamp (by omega)
      have hcc : (nI c).toNatClampNeg = c := nI_clamp (by omega)
      refine br_f (nI_ne0 (by omega) (by omega)) ⟨vp_in_nI (by omega) (by omega), nm_r (e' := upd st (gs_nx b E st) 4) (by rw [hcl]) ⟨vp_in_nI (by omega) (by omega), nm_r (e' := upd so c (nI (gs_nx b E st))) (by rw [hcc]) (nm_r (nI_1 c) (nm_r (nI_1 c) ?_))⟩⟩
      exact ih (c + 1) _ _ (by omega) hp
theorem xo_settle {post : St2 → Prop} {E : Nat → Nat → Prop} {c : Nat} {st so : Nat → Int32} (hb : b ≤ 64) (hc : c ≤ 64) (hE : gs_PE pr E) (hEb : ∀ s t, E s t → (1 ≤ s ∧ s ≤ b) ∧ (1 ≤ t ∧ t ≤ b))
    (hp : post (sl, it, nI b, nI n, nI ((gs_set b E (64 - c) st so c).2.2), (gs_set b E (64 - c) st so c).1, pr, rf, lt, li, lk, lv, (gs_set b E (64 - c) st so c).2.1)) : wpX_settle post (sl, it, nI b, nI n, nI c, st, pr, rf, lt, li, lk, lv, so) :=
  ⟨64 - c + 1, xo_settleW hb hE hEb (64 - c) c st so (by omega) hp⟩
end
section
variable {sl it : Int32} {b n c : Nat} {st : Nat → Int32} {pr rf : Nat → Int64} {lt li lk lv so : Nat → Int32}
/-- the graph behind an abort of D -/
def gs_EA (E : Nat → Nat → Prop) (D : Nat → Prop) (s t : Nat) : Prop := E s t ∧ ¬ D s ∧ ¬ D t
theorem gs_PE_A {E : Nat → Nat → Prop} {D : Nat → Prop} {p : Nat → Int64} (hE : gs_PE pr E) (hEb : ∀ s t, E s t → (1 ≤ s ∧ s ≤ b) ∧ (1 ≤ t ∧ t ≤ b)) (hp : gs_prA D pr b p) : gs_PE p (gs_EA E D) := by
  intro t h1 h2 s
  by_cases c : t ≤ b
  · rw [hp.2 t h1 c s, hE t h1 h2 s]
    exact Iff.rfl
  · rw [hp.1 t (Or.inr (by omega)), hE t h1 h2 s]
    exact ⟨fun h => absurd (hEb s t h).2.2 c, fun h => h.1⟩
theorem xo_abort {post : Int32 → St2 → Prop} {E F : Nat → Nat → Prop} {t : Nat} (hb : b ≤ 64) (hc : c ≤ 64) (hE : gs_PE pr E) (hEb : ∀ s t, E s t → (1 ≤ s ∧ s ≤ b) ∧ (1 ≤ t ∧ t ≤ b)) (hF : gs_RF rf F) (h1 : 1 ≤ t) (h2 : t ≤ b)
    {D : Nat → Prop} (hD : D = gs_Dm b F st t) {E' : Nat → Nat → Prop} (hE' : E' = gs_EA E D) {g : (Nat → Int32) × (Nat → Int32) × Nat} (hg : g = gs_set b E' (64 - c) (gs_abs D st b) so c)
    (hp : ∀ p, gs_PE p E' → post (nI (gs_cnt D b)) (sl, it, nI b, nI n, nI (g.2.2), g.1, p, rf, lt, li, lk, lv, g.2.1)) : wpX_abortWithReaders post (sl, it, nI b, nI n, nI c, st, pr, rf, lt, li, lk, lv, so) (nI t) := by
  subst hg
  unfold wpX_abortWithReaders
  dsimp only
  refine xo_withRd hb hF h1 h2 (fun w hw => ?_)
  rw [← hD] at hw
  refine pk_loop (σ := Nat × (Nat → Int32) × (Nat → Int64)) (fun m i s => wX_abortWithReaders_12 post w sl it (nI b) (nI n) (nI c) m (nI s.1) (nI (i + 1)) s.2.1 s.2.2 rf lt li lk lv so)
    (fun i s => s.1 = gs_cnt D i ∧ s.2.1 = gs_abs D st i ∧ gs_prA D pr i s.2.2) b 0 (0, st, pr) (Nat.zero_le b) ⟨rfl, (gs_abs_0 D st).symm, gs_prA_0 D pr⟩ ?_ ?_
  · rintro m ⟨k, s', p⟩ ⟨e1, e2, e3⟩
    dsimp only at e1 e2 e3
    subst e1 e2
    have hpE := gs_PE_A hE hEb e3
    rw [← hE'] at hpE
    refine pk_lt b (b + 1) (fun _ => ?_) (fun h => absurd h (by omega))
    exact xo_settle hb hc hpE (fun s t h => by rw [hE'] at h; exact hEb s t h.1) (hp p hpE)
  · rintro m i ⟨k, s', p⟩ hi ⟨e1, e2, e3⟩ kk
    dsimp only at e1 e2 e3 kk ⊢
    subst e1 e2
    have hcl : (nI (i + 1)).toNatClampNeg = i + 1 := nI_clamp (by omega)
    have hin : vp_in (nI (i + 1)) 65 := vp_in_nI (by omega) (by omega)
    have hpi : p (i + 1) = pr (i + 1) := e3.1 (i + 1) (Or.inr (by omega))
    refine pk_lt b (i + 1) (fun h => absurd h (by omega)) (fun _ => ?_)
    refine ⟨hin, hin, nm_r (e' := vp_updL p (i + 1) (pr (i + 1) &&& (w ^^^ (-1)))) (by rw [hcl, hpi]) ?_⟩
    refine xo_has (by omega) (by omega) (fun h => ?_) (fun h => ?_)
    · have hd : D (i + 1) := (hw _).mp h
      refine br_f (by decide) ⟨hin, nm_r (e' := vp_updL p (i + 1) 0) ?_ ⟨hin, nm_r (e' := gs_abs D st (i + 1)) (by rw [hcl]; exact gs_abs_s hd) (nm_r (nI_1 _) (nm_r (nI_1 (i + 1)) (kk (gs_cnt D i + 1, gs_abs D st (i + 1), vp_updL p (i + 1) 0) ⟨(gs_cnt_t hd).symm, rfl, ?_⟩)))⟩⟩
      · rw [hcl]
        funext j
        by_cases e : j = i + 1
        · rw [e, pk_uLs, pk_uLs]
        · rw [pk_uLn e, pk_uLn e, pk_uLn e]
      · exact gs_prA_s e3 (fun s => ⟨fun z => absurd z (gs_m_0 s), fun z => absurd hd z.2.2⟩)
    · have hd : ¬ D (i + 1) := fun z => h ((hw _).mpr z)
      refine br_t rfl (nm_r (nI_1 (i + 1)) (kk (gs_cnt D i, gs_abs D st i, vp_updL p (i + 1) (pr (i + 1) &&& (w ^^^ (-1)))) ⟨(gs_cnt_f hd).symm, gs_abs_n hd, ?_⟩))
      refine gs_prA_s e3 (fun s => ?_)
      rw [gs_m_not, hw s]
      exact ⟨fun z => ⟨z.1, z.2, hd⟩, fun z => ⟨z.1, z.2.1⟩⟩
theorem xo_mustWait {post : Int32 → Prop} {F : Nat → Nat → Prop} {t : Nat} (hb : b ≤ 64) (hF : gs_RF rf F) (hFb : ∀ t w, F t w → 1 ≤ w ∧ w ≤ b) (h1 : 1 ≤ t) (h2 : t ≤ b)
    (p1 : (∃ w, F t w ∧ gs_un (st w)) → post 1) (p0 : (∀ w, F t w → ¬ gs_un (st w)) → post 0) : wpX_mustWait post (sl, it, nI b, nI n, nI c, st, pr, rf, lt, li, lk, lv, so) (nI t) := by
  unfold wpX_mustWait
  dsimp only
  refine ⟨vp_in_nI (by omega) (by omega), xo_unfSet hb (fun w hw => ?_)⟩
  rw [nI_clamp (show t < 2 ^ 31 by omega)]
  refine br_c (fun z => p0 ?_) (fun z => p1 ?_)
  · rw [gs_and0] at z
    exact fun v hv hu => z v ((hF t h1 (by omega) v).mpr hv) ((hw v).mpr ⟨hFb t v hv, hu⟩)
  · rw [gs_and0] at z
    apply Classical.byContradiction
    intro y
    exact z (fun v v1 v2 => y ⟨v, (hF t h1 (by omega) v).mp v1, ((hw v).mp v2).2⟩)
theorem xo_firstReady {post : Int32 → Prop} {F : Nat → Nat → Prop} (hb : b ≤ 64) (hF : gs_RF rf F) (hFb : ∀ t w, F t w → 1 ≤ w ∧ w ≤ b) (hp : post (nI (gs_fst (gs_Go F st) b 1))) : wpX_firstReadyWaiter post (sl, it, nI b, nI n, nI c, st, pr, rf, lt, li, lk, lv, so) := by
  unfold wpX_firstReadyWaiter
  dsimp only
  refine pk_loop (σ := Unit) (fun m i _ => wX_firstReadyWaiter_2 post sl it (nI b) (nI n) (nI c) st pr rf lt li lk lv so m (nI (i + 1))) (fun i _ => gs_fst (gs_Go F st) (b - i) (i + 1) = gs_fst (gs_Go F st) b 1) b 0 () (Nat.zero_le b) rfl ?_ ?_
  · intro m _ hs
    refine pk_lt b (b + 1) (fun _ => ?_) (fun h => absurd h (by omega))
    rw [Nat.sub_self] at hs
    rw [← hs] at hp
    exact hp
  · intro m i _ hi hs k
    refine pk_lt b (i + 1) (fun h => absurd h (by omega)) (fun _ => ?_)
    have hcl : (nI (i + 1)).toNatClampNeg = i + 1 := nI_clamp (by omega)
    have hin : vp_in (nI (i + 1)) 65 := vp_in_nI (by omega) (by omega)
    rw [show b - i = (b - (i + 1)) + 1 by omega] at hs
    refine ⟨hin, ?_⟩
    rw [hcl]
    refine br_c (fun h2 => ?_) (fun h2 => ?_)
    · refine xo_mustWait hb hF hFb (by omega) (by omega) (fun z => ?_) (fun z => ?_)
      · obtain ⟨w, w1, w2⟩ := z
        have hr : ¬ gs_Go F st (i + 1) := fun r => r.2 w w1 w2
        rw [gs_fst_f hr] at hs
        exact br_f (by decide) (nm_r (nI_1 (i + 1)) (k () hs))
      · have hr : gs_Go F st (i + 1) := ⟨h2, z⟩
        rw [gs_fst_t hr] at hs
        rw [← hs] at hp
        exact br_t rfl hp
    · have hr : ¬ gs_Go F st (i + 1) := fun r => h2 r.1
      rw [gs_fst_f hr] at hs
      exact nm_r (nI_1 (i + 1)) (k () hs)
theorem xo_commitW {post : Int32 → St2 → Prop} {F : Nat → Nat → Prop} (hb : b ≤ 64) (hF : gs_RF rf F) (hFb : ∀ t w, F t w → 1 ≤ w ∧ w ≤ b)
    (hp : ∀ k s, gs_Wy b F st k s → (∀ t, 1 ≤ t → t ≤ b → ¬ gs_Go F s t) → post (nI k) (sl, it, nI b, nI n, nI c, s, pr, rf, lt, li, lk, lv, so)) : wpX_commitWaiters post (sl, it, nI b, nI n, nI c, st, pr, rf, lt, li, lk, lv, so) := by
  unfold wpX_commitWaiters
  dsimp only
  refine pk_loop (σ := Nat → Int32) (fun m r s => wX_commitWaiters_4 post sl it (nI b) (nI n) (nI c) m (nI r) (nI r) s pr rf lt li lk lv so) (fun r s => gs_Wy b F st r s) b 0 st (Nat.zero_le b) (gs_wy0 b F st) ?_ ?_
  · intro m s hs
    refine pk_le b b (fun _ => hp b s hs ?_) (fun h => absurd h (by omega))
    intro t h1 h2 hg
    have e : gs_cnt (fun j => s j = 2) b = 0 := by
      have := hs.2
      have := gs_cnt_le (fun j => st j = 2) b
      omega
    exact gs_cnt_none e t h1 h2 hg.1
  · intro m r s hr hs k
    refine pk_le b r (fun h => absurd h (by omega)) (fun _ => ?_)
    refine xo_firstReady hb hF hFb ?_
    cases gs_fst_or (gs_Go F s) b 1 (Nat.le_refl 1) with
    | inl h =>
      rw [h.1]
      exact br_t rfl (hp r s hs (fun t h1 h2 => h.2 t h1 (by omega)))
    | inr h =>
      have hcl : (nI (gs_fst (gs_Go F s) b 1)).toNatClampNeg = gs_fst (gs_Go F s) b 1 := nI_clamp (by omega)
      exact br_f (nI_ne0 (by omega) (by omega)) ⟨vp_in_nI (by omega) (by omega), nm_r (e' := upd s (gs_fst (gs_Go F s) b 1) 3) (by rw [hcl]) (nm_r (nI_1 r) (nm_r (nI_1 r) (k _ (gs_wyS hs h.1 (by omega) h.2.2))))⟩
theorem xo_commit {post : Int32 → St2 → Prop} {E F : Nat → Nat → Prop} {t : Nat} (hb : b ≤ 64) (hc : c ≤ 64) (hE : gs_PE pr E) (hEb : ∀ s t, E s t → (1 ≤ s ∧ s ≤ b) ∧ (1 ≤ t ∧ t ≤ b)) (hF : gs_RF rf F) (hFb : ∀ t w, F t w → 1 ≤ w ∧ w ≤ b) (h1 : 1 ≤ t) (h2 : t ≤ b)
    (pN : ¬ st t = 1 → post (-2) (sl, it, nI b, nI n, nI c, st, pr, rf, lt, li, lk, lv, so)) (pW : st t = 1 → (∃ w, F t w ∧ gs_un (st w)) → post 0 (sl, it, nI b, nI n, nI c, upd st t 2, pr, rf, lt, li, lk, lv, so))
    (pC : st t = 1 → (∀ w, F t w → ¬ gs_un (st w)) → ∀ k s, gs_Wy b F (upd st t 3) k s → (∀ t, 1 ≤ t → t ≤ b → ¬ gs_Go F s t) →
      post (nI (1 + k)) (sl, it, nI b, nI n, nI ((gs_set b E (64 - c) s so c).2.2), (gs_set b E (64 - c) s so c).1, pr, rf, lt, li, lk, lv, (gs_set b E (64 - c) s so c).2.1)) : wpX_commit post (sl, it, nI b, nI n, nI c, st, pr, rf, lt, li, lk, lv, so) (nI t) := by
  have hcl : (nI t).toNatClampNeg = t := nI_clamp (by omega)
  have hin : vp_in (nI t) 65 := vp_in_nI (by omega) (by omega)
  unfold wpX_commit
  dsimp only
  refine xo_begun1 h1 h2 hb (br_f (by decide) ⟨hin, ?_⟩)
  rw [hcl]
  refine br_c (fun e => ?_) pN
  refine xo_mustWait hb hF hFb h1 h2 (fun z => ?_) (fun z => ?_)
  · exact br_f (by decide) ⟨hin, nm_e (pW e z)⟩
  · refine br_t rfl ⟨hin, nm_e ?_⟩
    refine xo_commitW hb hF hFb (fun k s hk hs => ?_)
    refine nm_r (nI_add 1 k) ?_
    exact xo_settle hb hc hE hEb (pC e z k s hk hs)
end
