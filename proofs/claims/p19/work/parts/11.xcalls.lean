/-! the calls, against the invariants -/
theorem gs_tn {t : Int32} {b j : Nat} (hb : b ≤ 64) (h : t < 1 ∨ (¬ t < 1 ∧ ¬ t ≤ nI b)) (h1 : 1 ≤ j) (h2 : j ≤ b) : ¬ t = nI j := by
  intro e
  rw [e] at h
  rcases h with h | h
  · have := (nI_ltI (b := 1) (by omega) (by omega)).mp h
    omega
  · exact h.2 (nI_le h2 (by omega))
section
variable {sl it : Int32} {b n c : Nat} {st : Nat → Int32} {pr rf : Nat → Int64} {lt li lk lv so : Nat → Int32} {T : Nat → Nat} {X K A : Nat → Int32} {F : Nat → Nat → Prop} {q : Nat → Nat}
theorem gx_commit {post : Int32 → St2 → Prop} {t : Int32} (h : gp_J b n c st so pr rf T X K lt li lk lv A F q)
    (hp : ∀ r c' st' so' q', gp_J b n c' st' so' pr rf T X K lt li lk lv A F q' → gp_st b st st' → c ≤ c' → (∀ k, k < c → q' k = q k) → (∀ j, 1 ≤ j → j ≤ b → t = nI j → ¬ st' j = 1) → post r (sl, it, nI b, nI n, nI c', st', pr, rf, lt, li, lk, lv, so')) : wpX_commit post (sl, it, nI b, nI n, nI c, st, pr, rf, lt, li, lk, lv, so) t := by
  have h' := h
  obtain ⟨h0, hL, hK, hv, hE, hRF, hA, hS, hQ, hG, hR, hV⟩ := h
  rcases gs_tc t (show b ≤ 64 by omega) with ⟨j, h1, h2, rfl⟩ | ht
  · have hj : ∀ j', j' ≤ b → nI j = nI j' → j = j' := fun j' a e => (nI_eq (by omega) (by omega)).mp e
    refine xo_commit (by omega) h0.2.2 hE (gp_Eb hL) hRF (fun t w z => (hS.1 t w z).2.1) h1 h2 (fun e => ?_) (fun e z => ?_) (fun e z m s hm hs => ?_)
    · exact hp _ c st so q h' (gp_st_r b st) (Nat.le_refl c) (fun _ _ => rfl) (fun j' _ a e' => by rw [← hj j' a e']; exact e)
    · obtain ⟨g1, g2⟩ := gp_J_wt h' h1 h2 e z
      exact hp _ c _ so q g1 g2 (Nat.le_refl c) (fun _ _ => rfl) (fun j' _ a e' => by rw [← hj j' a e', pk_us]; decide)
    · obtain ⟨q', g1, g2, g3, g4, g5⟩ := gp_J_cm h' h1 h2 e z hm hs rfl
      exact hp _ _ _ _ q' g1 g2 g3 g4 (fun j' _ a e' => by rw [← hj j' a e']; exact g5)
  · unfold wpX_commit
    dsimp only
    exact xo_begun0 ht (br_t rfl (hp _ c st so q h' (gp_st_r b st) (Nat.le_refl c) (fun _ _ => rfl) (fun j a d e => absurd e (gs_tn (by omega) ht a d))))
theorem gx_abort {post : Int32 → St2 → Prop} {t : Int32} (h : gp_J b n c st so pr rf T X K lt li lk lv A F q)
    (hp : ∀ r c' st' so' p' q', gp_J b n c' st' so' p' rf T X K lt li lk lv A F q' → gp_st b st st' → c ≤ c' → (∀ k, k < c → q' k = q k) → post r (sl, it, nI b, nI n, nI c', st', p', rf, lt, li, lk, lv, so')) : wpX_abort post (sl, it, nI b, nI n, nI c, st, pr, rf, lt, li, lk, lv, so) t := by
  have h' := h
  obtain ⟨h0, hL, hK, hv, hE, hRF, hA, hS, hQ, hG, hR, hV⟩ := h
  unfold wpX_abort
  dsimp only
  rcases gs_tc t (show b ≤ 64 by omega) with ⟨j, h1, h2, rfl⟩ | ht
  · refine xo_begun1 h1 h2 (by omega) (br_f (by decide) (xo_isUnf (by omega) (fun e => br_f (by decide) ?_) (fun e => br_t rfl ?_)))
    · refine xo_abort (by omega) h0.2.2 hE (gp_Eb hL) hRF h1 h2 rfl rfl rfl (fun p hp' => ?_)
      obtain ⟨q', g1, g2, g3, g4⟩ := gp_J_ab h' h1 h2 e rfl rfl hp' rfl
      exact hp _ _ _ _ p q' g1 g2 g3 g4
    · exact hp _ c st so pr q h' (gp_st_r b st) (Nat.le_refl c) (fun _ _ => rfl)
  · exact xo_begun0 ht (br_t rfl (hp _ c st so pr q h' (gp_st_r b st) (Nat.le_refl c) (fun _ _ => rfl)))
theorem gp_ref_neg (t x v : Int32) (hb : b ≤ 64) (h : ¬ gs_ref b n it st t x v = 0) : gs_ref b n it st t x v < 0 := by
  rcases gs_ref_c (n := n) (it := it) (st := st) t x v hb with ⟨_, e⟩ | ⟨j, j1, j2, ej, h'⟩
  · rw [e]; decide
  · rcases h' with ⟨_, e⟩ | ⟨hs, ⟨_, e⟩ | ⟨x0, x1, ⟨_, e⟩ | ⟨v0, v1, ⟨_, e⟩ | ⟨hn, e⟩⟩⟩⟩
    · rw [e]; decide
    · rw [e]; decide
    · rw [e]; decide
    · rw [e]; decide
    · exact absurd e h
theorem gp_ref_go (t x v : Int32) (hb : b ≤ 64) (h0 : gs_ref b n it st t x v = 0) : ∃ j, 1 ≤ j ∧ j ≤ b ∧ t = nI j ∧ st j = 1 ∧ n < 128 := by
  rcases gs_ref_c (n := n) (it := it) (st := st) t x v hb with ⟨_, e⟩ | ⟨j, j1, j2, ej, h⟩
  · rw [h0] at e
    exact absurd e (by decide)
  · refine ⟨j, j1, j2, ej, ?_⟩
    rcases h with ⟨_, e⟩ | ⟨hs, ⟨_, e⟩ | ⟨x0, x1, ⟨_, e⟩ | ⟨v0, v1, ⟨_, e⟩ | ⟨hn, _⟩⟩⟩⟩
    · rw [h0] at e
      exact absurd e (by decide)
    · rw [h0] at e
      exact absurd e (by decide)
    · rw [h0] at e
      exact absurd e (by decide)
    · rw [h0] at e
      exact absurd e (by decide)
    · exact ⟨hs, hn⟩
theorem gp_cv {P : Nat → Prop} (hv : ∀ j, j < n → ∃ v, v < 1000 ∧ lv j = nI v) : ∃ y, y < 1000 ∧ gs_val 0 lv (gs_lst P n) = nI y := by
  cases e : gs_lst P n with
  | zero => exact ⟨0, by omega, rfl⟩
  | succ i => exact hv i (gs_lst_in e).1
theorem gp_ap3 {y z : Nat} (hy : y < 1000) (hz : z < 1000) : gp_ap 3 (nI z) (nI y) = nI ((y + z) % 1000) := by
  unfold gp_ap
  rw [if_neg (by decide), if_neg (by decide), nI_add]
  exact pk_rem (d := 1000) (by omega) (by omega) (by omega)
theorem gx_read {post : Int32 → St2 → Prop} {t x : Int32} (h : gp_J b n c st so pr rf T X K lt li lk lv A F q)
    (hp0 : ∀ r c' st' so' p' q', r < 0 → gp_J b n c' st' so' p' rf T X K lt li lk lv A F q' → gp_st b st st' → c ≤ c' → (∀ k, k < c → q' k = q k) → post r (sl, it, nI b, nI n, nI c', st', p', rf, lt, li, lk, lv, so'))
    (hp1 : ∀ j p' r', 1 ≤ j → j ≤ b → t = nI j → st j = 1 → n < 128 → ∀ y, y < 1000 → gs_val 0 lv (gs_lst (gs_Wr T X K st x) n) = nI y → gp_J b (n + 1) c st so p' r' (gs_apN T n j) (upd X n x) (upd K n 1) (upd lt n (nI j)) (upd li n x) (upd lk n 1) (upd lv n (nI y)) (upd A n 0) (gp_F F st 1 j (gs_wrt T (gs_lst (gs_Wr T X K st x) n))) q →
      post (nI y) (sl, it, nI b, nI (n + 1), nI c, st, p', r', upd lt n (nI j), upd li n x, upd lk n 1, upd lv n (nI y), so)) : wpX_read post (sl, it, nI b, nI n, nI c, st, pr, rf, lt, li, lk, lv, so) t x := by
  have h' := h
  obtain ⟨h0, hL, hK, hv, hE, hRF, hA, hS, hQ, hG, hR, hV⟩ := h
  by_cases hr : gs_ref b n it st t x 0 = 0
  · obtain ⟨j, h1, h2, rfl, hs, hn⟩ := gp_ref_go t x 0 (by omega) hr
    refine xp_read (by omega) h0.2.2 hn hL hE (gp_Eb hL) hRF h1 h2 hr rfl rfl rfl (fun hc p hp => ?_) (fun hc w hw r hrf => ?_)
    · obtain ⟨q', g1, g2, g3, g4⟩ := gp_J_ab h' h1 h2 (Or.inl hs) rfl rfl hp rfl
      exact hp0 _ _ _ _ p q' (by decide) g1 g2 g3 g4
    · obtain ⟨y, y1, y2⟩ := gp_cv (lv := lv) (P := gs_Wr T X K st x) hv
      have g := gp_J_op (a := 0) (v := nI y) h' hn h1 h2 hs (Or.inl rfl) hw hc rfl (Or.inl ⟨by decide, hrf⟩) (by unfold gp_ap; rw [if_pos rfl, y2]) ⟨y, y1, rfl⟩
      rw [y2]
      exact hp1 j _ r h1 h2 rfl hs hn y y1 y2 g
  · exact xp_read0 (by omega) (by omega) hr (hp0 _ c st so pr q (gp_ref_neg t x 0 (by omega) hr) h' (gp_st_r b st) (Nat.le_refl c) (fun _ _ => rfl))
theorem gx_write {post : Int32 → St2 → Prop} {t x : Int32} {z : Nat} (hz : z < 1000) (h : gp_J b n c st so pr rf T X K lt li lk lv A F q)
    (hp0 : ∀ r c' st' so' p' q', r < 0 → gp_J b n c' st' so' p' rf T X K lt li lk lv A F q' → gp_st b st st' → c ≤ c' → (∀ k, k < c → q' k = q k) → post r (sl, it, nI b, nI n, nI c', st', p', rf, lt, li, lk, lv, so'))
    (hp1 : ∀ j p' r', 1 ≤ j → j ≤ b → t = nI j → st j = 1 → n < 128 → gp_J b (n + 1) c st so p' r' (gs_apN T n j) (upd X n x) (upd K n 2) (upd lt n (nI j)) (upd li n x) (upd lk n 2) (upd lv n (nI z)) (upd A n (nI z)) (gp_F F st 2 j (gs_wrt T (gs_lst (gs_Wr T X K st x) n))) q →
      post 0 (sl, it, nI b, nI (n + 1), nI c, st, p', r', upd lt n (nI j), upd li n x, upd lk n 2, upd lv n (nI z), so)) : wpX_write post (sl, it, nI b, nI n, nI c, st, pr, rf, lt, li, lk, lv, so) t x (nI z) := by
  have h' := h
  obtain ⟨h0, hL, hK, hv, hE, hRF, hA, hS, hQ, hG, hR, hV⟩ := h
  by_cases hr : gs_ref b n it st t x (nI z) = 0
  · obtain ⟨j, h1, h2, rfl, hs, hn⟩ := gp_ref_go t x (nI z) (by omega) hr
    refine xp_write (by omega) h0.2.2 hn hL hE (gp_Eb hL) hRF h1 h2 hr rfl rfl rfl (fun hc p hp => ?_) (fun hc w hw => ?_)
    · obtain ⟨q', g1, g2, g3, g4⟩ := gp_J_ab h' h1 h2 (Or.inl hs) rfl rfl hp rfl
      exact hp0 _ _ _ _ p q' (by decide) g1 g2 g3 g4
    · have g := gp_J_op (a := nI z) (v := nI z) h' hn h1 h2 hs (Or.inr (Or.inl rfl)) hw hc rfl (Or.inr ⟨by decide, rfl⟩) (by unfold gp_ap; rw [if_neg (by decide), if_pos rfl]) ⟨z, hz, rfl⟩
      exact hp1 j _ rf h1 h2 rfl hs hn g
  · exact xp_write0 (by omega) (by omega) hr (hp0 _ c st so pr q (gp_ref_neg t x (nI z) (by omega) hr) h' (gp_st_r b st) (Nat.le_refl c) (fun _ _ => rfl))
theorem gx_add {post : Int32 → St2 → Prop} {t x : Int32} {z : Nat} (hz : z < 1000) (h : gp_J b n c st so pr rf T X K lt li lk lv A F q)
    (hp0 : ∀ r c' st' so' p' q', r < 0 → gp_J b n c' st' so' p' rf T X K lt li lk lv A F q' → gp_st b st st' → c ≤ c' → (∀ k, k < c → q' k = q k) → post r (sl, it, nI b, nI n, nI c', st', p', rf, lt, li, lk, lv, so'))
    (hp1 : ∀ j p' r', 1 ≤ j → j ≤ b → t = nI j → st j = 1 → n < 128 → ∀ y, y < 1000 → gp_J b (n + 1) c st so p' r' (gs_apN T n j) (upd X n x) (upd K n 3) (upd lt n (nI j)) (upd li n x) (upd lk n 3) (upd lv n (nI y)) (upd A n (nI z)) (gp_F F st 3 j (gs_wrt T (gs_lst (gs_Wr T X K st x) n))) q →
      post (nI y) (sl, it, nI b, nI (n + 1), nI c, st, p', r', upd lt n (nI j), upd li n x, upd lk n 3, upd lv n (nI y), so)) : wpX_add post (sl, it, nI b, nI n, nI c, st, pr, rf, lt, li, lk, lv, so) t x (nI z) := by
  have h' := h
  obtain ⟨h0, hL, hK, hv, hE, hRF, hA, hS, hQ, hG, hR, hV⟩ := h
  by_cases hr : gs_ref b n it st t x (nI z) = 0
  · obtain ⟨j, h1, h2, rfl, hs, hn⟩ := gp_ref_go t x (nI z) (by omega) hr
    obtain ⟨y, y1, y2⟩ := gp_cv (lv := lv) (P := gs_Wr T X K st x) hv
    have e3 := gp_ap3 y1 hz
    have ea : nI ((y + z) % 1000) = (gs_val 0 lv (gs_lst (gs_Wr T X K st x) n) + nI z) - (gs_val 0 lv (gs_lst (gs_Wr T X K st x) n) + nI z) / 1000 * 1000 := by
      rw [y2, ← e3]
      unfold gp_ap
      rw [if_neg (by decide), if_neg (by decide)]
    refine xp_add (by omega) h0.2.2 hn hL hE (gp_Eb hL) hRF h1 h2 hr rfl rfl rfl ea (fun hc p hp => ?_) (fun hc w hw r hrf => ?_)
    · obtain ⟨q', g1, g2, g3, g4⟩ := gp_J_ab h' h1 h2 (Or.inl hs) rfl rfl hp rfl
      exact hp0 _ _ _ _ p q' (by decide) g1 g2 g3 g4
    · have g := gp_J_op (a := nI z) (v := nI ((y + z) % 1000)) h' hn h1 h2 hs (Or.inr (Or.inr rfl)) hw hc rfl (Or.inl ⟨by decide, hrf⟩) (by rw [y2, e3]) ⟨(y + z) % 1000, Nat.mod_lt _ (by omega), rfl⟩
      exact hp1 j _ r h1 h2 rfl hs hn _ (Nat.mod_lt _ (by omega)) g
  · exact xp_add0 (by omega) (by omega) hr (hp0 _ c st so pr q (gp_ref_neg t x (nI z) (by omega) hr) h' (gp_st_r b st) (Nat.le_refl c) (fun _ _ => rfl))
theorem gx_begin {post : Int32 → St2 → Prop} (hb : b + 1 < 64) (hsl : sl = nI 16) (hc : gs_cnt (fun t => gs_op (st t)) b < 16) (p1 : post (nI (b + 1)) (sl, it, nI (b + 1), nI n, nI c, upd st (b + 1) 1, pr, rf, lt, li, lk, lv, so)) : wpX_begin post (sl, it, nI b, nI n, nI c, st, pr, rf, lt, li, lk, lv, so) := by
  unfold wpX_begin
  dsimp only
  refine pk_lt b 64 (fun _ => ?_) (fun h => absurd h (by omega))
  refine xo_countOpen (by omega) (br_t ?_ ?_)
  · rw [hsl]
    exact nI_lt hc (by omega)
  · exact nm_r (nI_1 b) ⟨vp_in_nI (by omega) (by omega), nm_r (e' := upd st (b + 1) 1) (by rw [nI_clamp (show b + 1 < 2 ^ 31 by omega)]) p1⟩
theorem gx_status {post : Int32 → Prop} {j : Nat} (hb : b ≤ 64) (hj : j < 2 ^ 30) (p1 : 1 ≤ j → j ≤ b → post (st j)) (p0 : j = 0 ∨ b < j → post 0) : wpX_status post (sl, it, nI b, nI n, nI c, st, pr, rf, lt, li, lk, lv, so) (nI j) := by
  unfold wpX_status
  dsimp only
  by_cases h : 1 ≤ j ∧ j ≤ b
  · refine xo_begun1 h.1 h.2 hb (br_f (by decide) ⟨vp_in_nI (by omega) (by omega), ?_⟩)
    rw [nI_clamp (show j < 2 ^ 31 by omega)]
    exact p1 h.1 h.2
  · refine xo_begun0 ?_ (br_t rfl (p0 (by omega)))
    by_cases h0 : j = 0
    · rw [h0]
      exact Or.inl (by decide)
    · refine Or.inr ⟨fun z => ?_, fun z => ?_⟩
      · have := (nI_ltI (b := 1) (by omega) (by omega)).mp z
        omega
      · have := (nI_leI (by omega) (by omega)).mp z
        omega
theorem gx_settledAt {post : Int32 → Prop} {k : Nat} (hc : c ≤ 64) (hk : k < 2 ^ 30) (p1 : k < c → post (so k)) (p0 : c ≤ k → post 0) : wpX_settledAt post (sl, it, nI b, nI n, nI c, st, pr, rf, lt, li, lk, lv, so) (nI k) := by
  unfold wpX_settledAt
  dsimp only
  refine br_f (nI_pos (by omega)) (pk_le c k (fun h => p0 h) (fun h => ⟨vp_in_nI (by omega) (by omega), ?_⟩))
  rw [nI_clamp (show k < 2 ^ 31 by omega)]
  exact p1 h
theorem gx_value {post : Int32 → Prop} {x y : Nat} (hL : gs_Lg n b T X K lt li lk) (hn : n ≤ 128) (hb : b ≤ 64) (hi : it = nI y) (hx : x < y) (hy : y ≤ 8) (hp : post (gs_val 0 lv (gs_lst (gs_Wr T X K st (nI x)) n))) : wpX_value post (sl, it, nI b, nI n, nI c, st, pr, rf, lt, li, lk, lv, so) (nI x) := by
  unfold wpX_value
  dsimp only
  refine xo_item1 (nI_pos (by omega)) (by rw [hi]; exact nI_lt hx (by omega)) (br_f (by decide) (xl_cur hL hn hb hp))
theorem gx_settledValue {post : Int32 → Prop} {x y : Nat} (hL : gs_Lg n b T X K lt li lk) (hn : n ≤ 128) (hb : b ≤ 64) (hi : it = nI y) (hx : x < y) (hy : y ≤ 8) (hp : post (gs_val 0 lv (gs_lst (gs_Ws T X K st (nI x)) n))) : wpX_settledValue post (sl, it, nI b, nI n, nI c, st, pr, rf, lt, li, lk, lv, so) (nI x) :=
  xp_settledValue hL hn hb (nI_pos (by omega)) (by rw [hi]; exact nI_lt hx (by omega)) hp
theorem gx_writer {post : Int32 → Prop} {x y w : Nat} (hL : gs_Lg n b T X K lt li lk) (hn : n ≤ 128) (hb : b ≤ 64) (hi : it = nI y) (hx : x < y) (hy : y ≤ 8) (hw : w = gs_wrt T (gs_lst (gs_Wr T X K st (nI x)) n))
    (p1 : (1 ≤ w ∧ w ≤ b) → gs_op (st w) → post (nI w)) (p0 : (w = 0 ∨ ¬ gs_op (st w)) → post 0) : wpX_writer post (sl, it, nI b, nI n, nI c, st, pr, rf, lt, li, lk, lv, so) (nI x) := by
  have hwb := gs_wrt_in (P := gs_Wr T X K st (nI x)) hL
  rw [← hw] at hwb
  unfold wpX_writer
  dsimp only
  refine xo_item1 (nI_pos (by omega)) (by rw [hi]; exact nI_lt hx (by omega)) (br_f (by decide) (xl_lastWriter hL hn hb ?_))
  rw [← hw]
  refine pk_eq w 0 (fun e => p0 (Or.inl e)) (fun e => ?_)
  exact xo_isOpen (by omega) (fun o => br_f (by decide) (p1 (hwb.resolve_left e) o)) (fun o => br_t rfl (p0 (Or.inr o)))
end
