/-! the calls that change something -/
theorem xp_begin {sl it : Int32} {b n c : Nat} {st : Nat → Int32} {pr rf : Nat → Int64} {lt li lk lv so : Nat → Int32} {post : Int32 → SX → Prop} (hb : b < 64) (p1 : nI (gs_cnt (fun t => gs_op (st t)) b) < sl → post (nI (b + 1)) (sl, it, nI (b + 1), nI n, nI c, upd st (b + 1) 1, pr, rf, lt, li, lk, lv, so)) (p0 : ¬ nI (gs_cnt (fun t => gs_op (st t)) b) < sl → post (-7) (sl, it, nI b, nI n, nI c, st, pr, rf, lt, li, lk, lv, so)) : wpX_begin post (sl, it, nI b, nI n, nI c, st, pr, rf, lt, li, lk, lv, so) := by
  unfold wpX_begin
  dsimp only
  refine pk_lt b 64 (fun _ => ?_) (fun h => absurd h (by omega))
  refine xo_countOpen (by omega) (br_c (fun e => ?_) p0)
  exact nm_r (nI_1 b) ⟨vp_in_nI (by omega) (by omega), nm_r (e' := upd st (b + 1) 1) (by rw [nI_clamp (show b + 1 < 2 ^ 31 by omega)]) (p1 e)⟩
theorem i_vc_begin {k : Nat} {u : SX} {v : SY} (I : i_Rel k u v) (hk : k + 4 ≤ 2050) : wpX_begin (fun r u' => wpY_begin (fun r' v' => r' = r ∧ i_Rel (k + 4) u' v') v) u := by
  obtain ⟨sl, it, b, n, c, f, st, so, pr, rf, T, X, K, lt, li, lk, lv, lt', li', lk', lv', R, S, rd, sr, mk, rfl, rfl, hI⟩ := I
  have hI0 := hI
  obtain ⟨hb, hn, hc, hf, hL, hL', hV, hF, hE, hRF, hA⟩ := hI
  by_cases h64 : b < 64
  · refine xp_begin h64 (fun e => yl_begin h64 (fun _ => ⟨rfl, ?_⟩) (fun z => absurd e z)) (fun e => yl_begin h64 (fun z => absurd z e) (fun _ => ⟨rfl, gs_mkRel hI0⟩))
    have eE : gs_E n T X K st = gs_E n T X K (upd st (b + 1) 1) := funext fun s => funext fun t => propext (gs_E_cb hL (fun s _ h2 => by rw [pk_un (by omega)]) s t)
    exact gs_mkRel (b := b + 1) ⟨by omega, hn, hc, hf, gs_Lg_b hL, gs_Lg_b hL', hV, gs_Fc_b hF, eE ▸ hE, hRF, eE ▸ hA⟩
  · unfold wpX_begin wpY_begin
    dsimp only
    exact pk_lt b 64 (fun h => absurd h h64) (fun _ => pk_lt b 64 (fun h => absurd h h64) (fun _ => ⟨rfl, gs_mkRel hI0⟩))
theorem i_vc_read {k : Nat} {u : SX} {v : SY} (I : i_Rel k u v) (hk : k + 4 ≤ 2050) (v1 : Int32) (v2 : Int32) : wpX_read (fun r u' => wpY_read (fun r' v' => r' = r ∧ i_Rel (k + 4) u' v') v v1 v2) u v1 v2 := by
  obtain ⟨sl, it, b, n, c, f, st, so, pr, rf, T, X, K, lt, li, lk, lv, lt', li', lk', lv', R, S, rd, sr, mk, rfl, rfl, hI⟩ := I
  have hI0 := hI
  obtain ⟨hb, hn, hc, hf, hL, hL', hV, hF, hE, hRF, hA⟩ := hI
  by_cases h0 : gs_ref b n it st v1 v2 0 = 0
  · obtain ⟨t, h1, h2, rfl, hs, hn'⟩ := gs_ref_go hb h0
    have h5 : ¬ st t = 5 := by rw [hs]; decide
    have hcv := gs_val_eq (d := 0) (P := gs_Wr T X K st v2) (n := n) hV (fun i q => q.1.2)
    have hcy := gs_cyc (gs_E_app (X := X) (K := K) (n := n) (T := T) (x := v2) (k := 1) h5) hA
    have hDb : ∀ j, gs_Dm b (gs_F f R S) st t j → 1 ≤ j ∧ j ≤ b := gs_Dm_in h1 h2
    refine xp_read hb hc hn' hL hE (gs_Eb hL) hRF h1 h2 h0 rfl (gs_EA_eq hDb) rfl (fun hc1 p hp => ?_) (fun hc1 w hw r hr => ?_)
    · unfold wpY_read
      dsimp only
      refine yp_op hL' hn' hb hc hF hf h1 h2 h0 rfl rfl rfl rfl rfl ⟨fun e => absurd e (by decide), fun _ => rfl⟩ ⟨fun _ => rfl, fun e => absurd e (by decide), fun e => absurd rfl e⟩ (fun hc2 mk => ?_) (fun hc2 => absurd (hcy.mpr hc1) hc2)
      refine ⟨rfl, gs_mkRel (gs_Inv_ab hI0 h1 h2 rfl rfl rfl hp (gs_Lg_keep hL' _ _ _) (fun j hj hk => ?_))⟩
      exact (hV j hj hk).trans (pk_un (show j ≠ n by omega)).symm
    · unfold wpY_read
      dsimp only
      refine yp_op hL' hn' hb hc hF hf h1 h2 h0 rfl rfl rfl rfl rfl ⟨fun e => absurd e (by decide), fun _ => rfl⟩ ⟨fun _ => rfl, fun e => absurd e (by decide), fun e => absurd rfl e⟩ (fun hc2 => absurd (hcy.mp hc2) hc1) (fun hc2 mk f' rd' sr' hfc => ?_)
      obtain ⟨R', S', hI'⟩ := gs_Inv_op (a := gs_val 0 lv (gs_lst (gs_Wr T X K st v2) n)) (z := 0) hI0 hn' h1 h2 h5 hw hc1 (fun e => absurd (by decide) e) (gs_wrt_in hL) (Or.inl ⟨by decide, hr⟩) hfc
      exact ⟨hcv.symm, gs_mkRel hI'⟩
  · refine xp_read0 hb hn h0 ?_
    unfold wpY_read
    dsimp only
    exact yp_ref hb hn h0 ⟨rfl, gs_mkRel hI0⟩
theorem i_vc_write {k : Nat} {u : SX} {v : SY} (I : i_Rel k u v) (hk : k + 4 ≤ 2050) (v1 : Int32) (v2 : Int32) (v3 : Int32) : wpX_write (fun r u' => wpY_write (fun r' v' => r' = r ∧ i_Rel (k + 4) u' v') v v1 v2 v3) u v1 v2 v3 := by
  obtain ⟨sl, it, b, n, c, f, st, so, pr, rf, T, X, K, lt, li, lk, lv, lt', li', lk', lv', R, S, rd, sr, mk, rfl, rfl, hI⟩ := I
  have hI0 := hI
  obtain ⟨hb, hn, hc, hf, hL, hL', hV, hF, hE, hRF, hA⟩ := hI
  by_cases h0 : gs_ref b n it st v1 v2 v3 = 0
  · obtain ⟨t, h1, h2, rfl, hs, hn'⟩ := gs_ref_go hb h0
    have h5 : ¬ st t = 5 := by rw [hs]; decide
    have hcy := gs_cyc (gs_E_app (X := X) (K := K) (n := n) (T := T) (x := v2) (k := 2) h5) hA
    have hDb : ∀ j, gs_Dm b (gs_F f R S) st t j → 1 ≤ j ∧ j ≤ b := gs_Dm_in h1 h2
    refine xp_write hb hc hn' hL hE (gs_Eb hL) hRF h1 h2 h0 rfl (gs_EA_eq hDb) rfl (fun hc1 p hp => ?_) (fun hc1 w hw => ?_)
    · unfold wpY_write
      dsimp only
      refine yp_op hL' hn' hb hc hF hf h1 h2 h0 rfl rfl rfl rfl rfl ⟨fun e => absurd e (by decide), fun _ => rfl⟩ ⟨fun e => absurd e (by decide), fun e => absurd e (by decide), fun _ _ => rfl⟩ (fun hc2 mk => ?_) (fun hc2 => absurd (hcy.mpr hc1) hc2)
      refine ⟨rfl, gs_mkRel (gs_Inv_ab hI0 h1 h2 rfl rfl rfl hp (gs_Lg_keep hL' _ _ _) (fun j hj hk => ?_))⟩
      exact (hV j hj hk).trans (pk_un (show j ≠ n by omega)).symm
    · unfold wpY_write
      dsimp only
      refine yp_op hL' hn' hb hc hF hf h1 h2 h0 rfl rfl rfl rfl rfl ⟨fun e => absurd e (by decide), fun _ => rfl⟩ ⟨fun e => absurd e (by decide), fun e => absurd e (by decide), fun _ _ => rfl⟩ (fun hc2 => absurd (hcy.mp hc2) hc1) (fun hc2 mk f' rd' sr' hfc => ?_)
      obtain ⟨R', S', hI'⟩ := gs_Inv_op (a := v3) (z := v3) hI0 hn' h1 h2 h5 hw hc1 (fun _ => rfl) (gs_wrt_in hL) (Or.inr ⟨by decide, rfl⟩) hfc
      exact ⟨rfl, gs_mkRel hI'⟩
  · refine xp_write0 hb hn h0 ?_
    unfold wpY_write
    dsimp only
    exact yp_ref hb hn h0 ⟨rfl, gs_mkRel hI0⟩
theorem i_vc_add {k : Nat} {u : SX} {v : SY} (I : i_Rel k u v) (hk : k + 4 ≤ 2050) (v1 : Int32) (v2 : Int32) (v3 : Int32) : wpX_add (fun r u' => wpY_add (fun r' v' => r' = r ∧ i_Rel (k + 4) u' v') v v1 v2 v3) u v1 v2 v3 := by
  obtain ⟨sl, it, b, n, c, f, st, so, pr, rf, T, X, K, lt, li, lk, lv, lt', li', lk', lv', R, S, rd, sr, mk, rfl, rfl, hI⟩ := I
  have hI0 := hI
  obtain ⟨hb, hn, hc, hf, hL, hL', hV, hF, hE, hRF, hA⟩ := hI
  by_cases h0 : gs_ref b n it st v1 v2 v3 = 0
  · obtain ⟨t, h1, h2, rfl, hs, hn'⟩ := gs_ref_go hb h0
    have h5 : ¬ st t = 5 := by rw [hs]; decide
    have hcv := gs_val_eq (d := 0) (P := gs_Wr T X K st v2) (n := n) hV (fun i q => q.1.2)
    have hcy := gs_cyc (gs_E_app (X := X) (K := K) (n := n) (T := T) (x := v2) (k := 3) h5) hA
    have hDb : ∀ j, gs_Dm b (gs_F f R S) st t j → 1 ≤ j ∧ j ≤ b := gs_Dm_in h1 h2
    refine xp_add hb hc hn' hL hE (gs_Eb hL) hRF h1 h2 h0 rfl (gs_EA_eq hDb) rfl rfl (fun hc1 p hp => ?_) (fun hc1 w hw r hr => ?_)
    · unfold wpY_add
      dsimp only
      refine yp_op hL' hn' hb hc hF hf h1 h2 h0 rfl rfl rfl rfl rfl ⟨fun _ => rfl, fun e => absurd rfl e⟩ ⟨fun e => absurd e (by decide), fun _ => rfl, fun _ e => absurd rfl e⟩ (fun hc2 mk => ?_) (fun hc2 => absurd (hcy.mpr hc1) hc2)
      refine ⟨rfl, gs_mkRel (gs_Inv_ab hI0 h1 h2 rfl rfl rfl hp (gs_Lg_keep hL' _ _ _) (fun j hj hk => ?_))⟩
      exact (hV j hj hk).trans (pk_un (show j ≠ n by omega)).symm
    · unfold wpY_add
      dsimp only
      refine yp_op hL' hn' hb hc hF hf h1 h2 h0 rfl rfl rfl rfl rfl ⟨fun _ => rfl, fun e => absurd rfl e⟩ ⟨fun e => absurd e (by decide), fun _ => rfl, fun _ e => absurd rfl e⟩ (fun hc2 => absurd (hcy.mp hc2) hc1) (fun hc2 mk f' rd' sr' hfc => ?_)
      obtain ⟨R', S', hI'⟩ := gs_Inv_op (k := 3) (z := (gs_val 0 lv' (gs_lst (gs_Wr T X K st v2) n) + v3) - (gs_val 0 lv' (gs_lst (gs_Wr T X K st v2) n) + v3) / 1000 * 1000) (a := (gs_val 0 lv (gs_lst (gs_Wr T X K st v2) n) + v3) - (gs_val 0 lv (gs_lst (gs_Wr T X K st v2) n) + v3) / 1000 * 1000) hI0 hn' h1 h2 h5 hw hc1 (fun _ => by rw [hcv]) (gs_wrt_in hL) (Or.inl ⟨by decide, hr⟩) hfc
      exact ⟨by rw [hcv], gs_mkRel hI'⟩
  · refine xp_add0 hb hn h0 ?_
    unfold wpY_add
    dsimp only
    exact yp_ref hb hn h0 ⟨rfl, gs_mkRel hI0⟩
theorem i_vc_commit {k : Nat} {u : SX} {v : SY} (I : i_Rel k u v) (hk : k + 4 ≤ 2050) (v1 : Int32) : wpX_commit (fun r u' => wpY_commit (fun r' v' => r' = r ∧ i_Rel (k + 4) u' v') v v1) u v1 := by
  obtain ⟨sl, it, b, n, c, f, st, so, pr, rf, T, X, K, lt, li, lk, lv, lt', li', lk', lv', R, S, rd, sr, mk, rfl, rfl, hI⟩ := I
  have hI0 := hI
  obtain ⟨hb, hn, hc, hf, hL, hL', hV, hF, hE, hRF, hA⟩ := hI
  rcases gs_tc v1 hb with ⟨t, h1, h2, rfl⟩ | h
  · refine xo_commit hb hc hE (gs_Eb hL) hRF (gs_Fb hF) h1 h2 (fun e => ?_) (fun e z => ?_) (fun e z m s hm hs => ?_)
    · exact yl_commit hL' hn hb hc hF (by omega) h1 h2 (fun _ => ⟨rfl, gs_mkRel hI0⟩) (fun e' => absurd e' e) (fun e' => absurd e' e)
    · refine yl_commit hL' hn hb hc hF (by omega) h1 h2 (fun e' => absurd e e') (fun _ _ => ⟨rfl, gs_mkRel (gs_Inv_st hI0 hc (fun s => ?_))⟩) (fun _ z' => ?_)
      · by_cases es : s = t
        · rw [es, pk_us, e]
          decide
        · rw [pk_un es]
      · obtain ⟨w, w1, w2⟩ := z
        exact absurd w2 (z' w w1)
    · refine yl_commit hL' hn hb hc hF (by omega) h1 h2 (fun e' => absurd e e') (fun _ z' => ?_) (fun _ _ m' s' hm' hs' => ?_)
      · obtain ⟨w, w1, w2⟩ := z'
        exact absurd w2 (z w w1)
      · obtain ⟨rfl, rfl⟩ := gs_wyE hm hm' hs hs'
        have h5 : ∀ x, s x = 5 ↔ st x = 5 := by
          intro x
          rw [gs_wy_ab hm x]
          by_cases es : x = t
          · rw [es, pk_us, e]
            decide
          · rw [pk_un es]
        have eE : gs_E n T X K st = gs_E n T X K s := funext fun a => funext fun d => propext (gs_E_c (fun x => (h5 x).symm) a d)
        have q := gs_set_ab b (gs_E n T X K s) (64 - c) s so c
        rw [eE]
        exact ⟨rfl, gs_mkRel (gs_Inv_st hI0 (by have := q.2; omega) (fun x => (q.1 x).trans (h5 x)))⟩
  · unfold wpX_commit wpY_commit
    dsimp only
    exact xo_begun0 h (br_t rfl (yo_begun0 h (br_t rfl ⟨rfl, gs_mkRel hI0⟩)))
theorem i_vc_abort {k : Nat} {u : SX} {v : SY} (I : i_Rel k u v) (hk : k + 4 ≤ 2050) (v1 : Int32) : wpX_abort (fun r u' => wpY_abort (fun r' v' => r' = r ∧ i_Rel (k + 4) u' v') v v1) u v1 := by
  obtain ⟨sl, it, b, n, c, f, st, so, pr, rf, T, X, K, lt, li, lk, lv, lt', li', lk', lv', R, S, rd, sr, mk, rfl, rfl, hI⟩ := I
  have hI0 := hI
  obtain ⟨hb, hn, hc, hf, hL, hL', hV, hF, hE, hRF, hA⟩ := hI
  unfold wpX_abort wpY_abort
  dsimp only
  rcases gs_tc v1 hb with ⟨t, h1, h2, rfl⟩ | h
  · have hDb : ∀ j, gs_Dm b (gs_F f R S) st t j → 1 ≤ j ∧ j ≤ b := gs_Dm_in h1 h2
    refine xo_begun1 h1 h2 hb (br_f (by decide) (xo_isUnf (by omega) (fun e => br_f (by decide) ?_) (fun e => br_t rfl ?_)))
    · refine xo_abort hb hc hE (gs_Eb hL) hRF h1 h2 rfl (gs_EA_eq hDb) rfl (fun p hp => ?_)
      refine yo_begun1 h1 h2 hb (br_f (by decide) (yo_isUnf (by omega) (fun _ => br_f (by decide) ?_) (fun z => absurd e z)))
      refine yl_abort hL' hn hb hc hF (by omega) h1 h2 rfl rfl rfl (fun mk => ?_)
      exact ⟨rfl, gs_mkRel (gs_Inv_ab hI0 h1 h2 rfl rfl rfl hp hL' hV)⟩
    · exact yo_begun1 h1 h2 hb (br_f (by decide) (yo_isUnf (by omega) (fun z => absurd z e) (fun _ => br_t rfl ⟨rfl, gs_mkRel hI0⟩)))
  · exact xo_begun0 h (br_t rfl (yo_begun0 h (br_t rfl ⟨rfl, gs_mkRel hI0⟩)))
