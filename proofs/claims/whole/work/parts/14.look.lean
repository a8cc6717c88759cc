/-! the calls that only look -/
theorem i_vc_status {k : Nat} {u : SX} {v : SY} (I : i_Rel k u v) (hk : k + 4 ≤ 2050) (v1 : Int32) : wpX_status (fun r => wpY_status (fun r' => r' = r ∧ i_Rel (k + 4) u v) v v1) u v1 := by
  have I' : i_Rel (k + 4) u v := I
  obtain ⟨sl, it, b, n, c, f, st, so, pr, rf, T, X, K, lt, li, lk, lv, lt', li', lk', lv', R, S, rd, sr, mk, rfl, rfl, hI⟩ := I
  obtain ⟨hb, hn, hc, hf, hL, hL', hV, hF, hE, hRF, hA⟩ := hI
  unfold wpX_status wpY_status
  dsimp only
  rcases gs_tc v1 hb with ⟨t, h1, h2, rfl⟩ | h
  · have hin : vp_in (nI t) 65 := vp_in_nI (by omega) (by omega)
    exact xo_begun1 h1 h2 hb (br_f (by decide) ⟨hin, yo_begun1 h1 h2 hb (br_f (by decide) ⟨hin, rfl, I'⟩)⟩)
  · exact xo_begun0 h (br_t rfl (yo_begun0 h (br_t rfl ⟨rfl, I'⟩)))
theorem i_vc_value {k : Nat} {u : SX} {v : SY} (I : i_Rel k u v) (hk : k + 4 ≤ 2050) (v1 : Int32) : wpX_value (fun r => wpY_value (fun r' => r' = r ∧ i_Rel (k + 4) u v) v v1) u v1 := by
  have I' : i_Rel (k + 4) u v := I
  obtain ⟨sl, it, b, n, c, f, st, so, pr, rf, T, X, K, lt, li, lk, lv, lt', li', lk', lv', R, S, rd, sr, mk, rfl, rfl, hI⟩ := I
  obtain ⟨hb, hn, hc, hf, hL, hL', hV, hF, hE, hRF, hA⟩ := hI
  unfold wpX_value wpY_value
  dsimp only
  by_cases hx : v1 < 0 ∨ ¬ v1 < it
  · refine xo_item0 hx (br_t rfl ?_)
    by_cases h0 : v1 < 0
    · exact br_t h0 ⟨rfl, I'⟩
    · exact br_f h0 (br_f (hx.resolve_left h0) ⟨rfl, I'⟩)
  · have x0 : ¬ v1 < 0 := fun z => hx (Or.inl z)
    have x1 : v1 < it := Classical.byContradiction fun z => hx (Or.inr z)
    have hcv := gs_val_eq (d := 0) (P := gs_Wr T X K st v1) (n := n) hV (fun i q => q.1.2)
    refine xo_item1 x0 x1 (br_f (by decide) (xl_cur hL hn hb (br_f x0 (br_t x1 ?_))))
    rw [hcv]
    refine yl_lastWrite hL' hn hb (fun e => ?_) (fun i e => ?_)
    · rw [e]
      exact br_t (by decide) ⟨rfl, I'⟩
    · have hi := (gs_lst_in e).1
      rw [e]
      refine br_f (nI_pos (by omega)) ⟨vp_in_nI (by omega) (by omega), ?_, I'⟩
      rw [nI_clamp (show i < 2 ^ 31 by omega)]
      rfl
theorem i_vc_writer {k : Nat} {u : SX} {v : SY} (I : i_Rel k u v) (hk : k + 4 ≤ 2050) (v1 : Int32) : wpX_writer (fun r => wpY_writer (fun r' => r' = r ∧ i_Rel (k + 4) u v) v v1) u v1 := by
  have I' : i_Rel (k + 4) u v := I
  obtain ⟨sl, it, b, n, c, f, st, so, pr, rf, T, X, K, lt, li, lk, lv, lt', li', lk', lv', R, S, rd, sr, mk, rfl, rfl, hI⟩ := I
  obtain ⟨hb, hn, hc, hf, hL, hL', hV, hF, hE, hRF, hA⟩ := hI
  unfold wpX_writer wpY_writer
  dsimp only
  by_cases hx : v1 < 0 ∨ ¬ v1 < it
  · refine xo_item0 hx (br_t rfl ?_)
    by_cases h0 : v1 < 0
    · exact br_t h0 ⟨rfl, I'⟩
    · exact br_f h0 (br_f (hx.resolve_left h0) ⟨rfl, I'⟩)
  · have x0 : ¬ v1 < 0 := fun z => hx (Or.inl z)
    have x1 : v1 < it := Classical.byContradiction fun z => hx (Or.inr z)
    refine xo_item1 x0 x1 (br_f (by decide) (xl_lastWriter hL hn hb ?_))
    cases e : gs_lst (gs_Wr T X K st v1) n with
    | zero =>
      refine br_t rfl (br_f x0 (br_t x1 (yl_lastWrite hL' hn hb (fun _ => br_t (by decide) ⟨rfl, I'⟩) (fun i e' => ?_))))
      rw [e] at e'
      exact absurd e' (by omega)
    | succ i =>
      have hi := hL i (gs_lst_in e).1
      have hi' := hL' i (gs_lst_in e).1
      have hin : vp_in (nI i) 128 := vp_in_nI (by have := (gs_lst_in e).1; omega) (by omega)
      have hcl : (nI i).toNatClampNeg = i := nI_clamp (by have := (gs_lst_in e).1; omega)
      rw [show gs_wrt T (i + 1) = T i from rfl]
      refine br_f (nI_ne0 (show 0 < T i by omega) (by omega)) ?_
      have h0 : ¬ nI i < 0 := nI_pos (by have := (gs_lst_in e).1; omega)
      refine xo_isOpen (t := T i) (by omega) (fun o => br_f (by decide) ?_) (fun o => br_t rfl ?_)
      · refine br_f x0 (br_t x1 (yl_lastWrite hL' hn hb (fun z => by rw [e] at z; exact absurd z (by omega)) (fun j e' => ?_)))
        obtain rfl : i = j := by omega
        refine br_f h0 ⟨hin, ?_⟩
        rw [hcl, hi'.1]
        exact yo_isOpen (by omega) (fun _ => br_f (by decide) ⟨hin, rfl, I'⟩) (fun z => absurd o z)
      · refine br_f x0 (br_t x1 (yl_lastWrite hL' hn hb (fun z => by rw [e] at z; exact absurd z (by omega)) (fun j e' => ?_)))
        obtain rfl : i = j := by omega
        refine br_f h0 ⟨hin, ?_⟩
        rw [hcl, hi'.1]
        exact yo_isOpen (by omega) (fun z => absurd z o) (fun _ => br_t rfl ⟨rfl, I'⟩)
theorem i_vc_settledValue {k : Nat} {u : SX} {v : SY} (I : i_Rel k u v) (hk : k + 4 ≤ 2050) (v1 : Int32) : wpX_settledValue (fun r => wpY_settledValue (fun r' => r' = r ∧ i_Rel (k + 4) u v) v v1) u v1 := by
  have I' : i_Rel (k + 4) u v := I
  obtain ⟨sl, it, b, n, c, f, st, so, pr, rf, T, X, K, lt, li, lk, lv, lt', li', lk', lv', R, S, rd, sr, mk, rfl, rfl, hI⟩ := I
  obtain ⟨hb, hn, hc, hf, hL, hL', hV, hF, hE, hRF, hA⟩ := hI
  by_cases hx : v1 < 0 ∨ ¬ v1 < it
  · unfold wpX_settledValue wpY_settledValue
    dsimp only
    refine xo_item0 hx (br_t rfl ?_)
    by_cases h0 : v1 < 0
    · exact br_t h0 ⟨rfl, I'⟩
    · exact br_f h0 (br_f (hx.resolve_left h0) ⟨rfl, I'⟩)
  · have x0 : ¬ v1 < 0 := fun z => hx (Or.inl z)
    have x1 : v1 < it := Classical.byContradiction fun z => hx (Or.inr z)
    exact xp_settledValue hL hn hb x0 x1 (yp_settledValue hL' hn hb x0 x1 ⟨(gs_val_eq hV (fun i q => q.1.2)).symm, I'⟩)
theorem i_vc_before {k : Nat} {u : SX} {v : SY} (I : i_Rel k u v) (hk : k + 4 ≤ 2050) (v1 : Int32) (v2 : Int32) : wpX_before (fun r => wpY_before (fun r' v' => r' = r ∧ i_Rel (k + 4) u v') v v1 v2) u v1 v2 := by
  have I' : i_Rel (k + 4) u v := I
  obtain ⟨sl, it, b, n, c, f, st, so, pr, rf, T, X, K, lt, li, lk, lv, lt', li', lk', lv', R, S, rd, sr, mk, rfl, rfl, hI⟩ := I
  have hI0 := hI
  obtain ⟨hb, hn, hc, hf, hL, hL', hV, hF, hE, hRF, hA⟩ := hI
  unfold wpX_before wpY_before
  dsimp only
  rcases gs_tc v1 hb with ⟨t, h1, h2, rfl⟩ | h
  · rcases gs_tc v2 hb with ⟨w, w1, w2, rfl⟩ | h'
    · by_cases ho : gs_op (st t) ∧ gs_op (st w)
      · have win : vp_in (nI w) 65 := vp_in_nI (by omega) (by omega)
        have wcl : (nI w).toNatClampNeg = w := nI_clamp (by omega)
        refine xp_pair0 hb h1 h2 w1 w2 ho.1 ho.2 (br_t rfl ⟨win, ?_⟩)
        rw [wcl]
        have hpw := hE w w1 (by omega)
        refine xo_withAnc hb hE (gs_Eb hL) (fun s z => (gs_E_in hL ((hpw s).mp z)).1) (fun q hq => ?_)
        have hk : gs_m q t ↔ gs_Pl (gs_E n T X K st) t w := ((hq t).trans (gs_L_c hpw (fun _ _ => Iff.rfl) t)).trans gs_Bk_Pl
        refine xo_has h1 (by omega) (fun z => br_f (by decide) ?_) (fun z => br_t rfl ?_)
        · refine yo_begun1 h1 h2 hb (br_f (by decide) (yo_begun1 w1 w2 hb (br_f (by decide) (yo_isOpen (by omega) (fun _ => br_f (by decide) (yo_isOpen (by omega) (fun _ => br_f (by decide) ?_) (fun y => absurd ho.2 y))) (fun y => absurd ho.1 y)))))
          exact yl_path hL' hn hb (by omega) (by omega) (fun _ mk => br_f (by decide) ⟨rfl, gs_mkRel hI0⟩) (fun y => absurd (hk.mp z) y)
        · refine yo_begun1 h1 h2 hb (br_f (by decide) (yo_begun1 w1 w2 hb (br_f (by decide) (yo_isOpen (by omega) (fun _ => br_f (by decide) (yo_isOpen (by omega) (fun _ => br_f (by decide) ?_) (fun y => absurd ho.2 y))) (fun y => absurd ho.1 y)))))
          exact yl_path hL' hn hb (by omega) (by omega) (fun y => absurd (hk.mpr y) z) (fun _ mk => br_t rfl ⟨rfl, gs_mkRel hI0⟩)
      · refine xp_pair9 hb h1 h2 w1 w2 ho (br_f (by decide) ?_)
        refine yo_begun1 h1 h2 hb (br_f (by decide) (yo_begun1 w1 w2 hb (br_f (by decide) (yo_isOpen (by omega) (fun o1 => br_f (by decide) (yo_isOpen (by omega) (fun o2 => absurd ⟨o1, o2⟩ ho) (fun _ => br_t rfl ⟨rfl, I'⟩))) (fun _ => br_t rfl ⟨rfl, I'⟩)))))
    · refine xp_pair1 hb (Or.inr h') (br_f (by decide) ?_)
      exact yo_begun1 h1 h2 hb (br_f (by decide) (yo_begun0 h' (br_t rfl ⟨rfl, I'⟩)))
  · exact xp_pair1 hb (Or.inl h) (br_f (by decide) (yo_begun0 h (br_t rfl ⟨rfl, I'⟩)))
theorem i_vc_waitsFor {k : Nat} {u : SX} {v : SY} (I : i_Rel k u v) (hk : k + 4 ≤ 2050) (v1 : Int32) (v2 : Int32) : wpX_waitsFor (fun r => wpY_waitsFor (fun r' => r' = r ∧ i_Rel (k + 4) u v) v v1 v2) u v1 v2 := by
  have I' : i_Rel (k + 4) u v := I
  obtain ⟨sl, it, b, n, c, f, st, so, pr, rf, T, X, K, lt, li, lk, lv, lt', li', lk', lv', R, S, rd, sr, mk, rfl, rfl, hI⟩ := I
  obtain ⟨hb, hn, hc, hf, hL, hL', hV, hF, hE, hRF, hA⟩ := hI
  unfold wpX_waitsFor
  dsimp only
  rcases gs_tc v1 hb with ⟨t, h1, h2, rfl⟩ | h
  · rcases gs_tc v2 hb with ⟨w, w1, w2, rfl⟩ | h'
    · by_cases ho : gs_op (st t) ∧ gs_op (st w)
      · have tin : vp_in (nI t) 65 := vp_in_nI (by omega) (by omega)
        have tcl : (nI t).toNatClampNeg = t := nI_clamp (by omega)
        have hrt := hRF t h1 (by omega) w
        refine xp_pair0 hb h1 h2 w1 w2 ho.1 ho.2 (br_t rfl ?_)
        refine xo_isUnf (by omega) (fun un => br_f (by decide) ⟨tin, ?_⟩) (fun un => br_t rfl ?_)
        · rw [tcl]
          refine xo_has w1 (by omega) (fun z => br_f (by decide) ?_) (fun z => br_t rfl ?_)
          · exact yp_waitsFor hF (by omega) hb h1 h2 w1 w2 ho.1 ho.2 (fun _ => ⟨rfl, I'⟩) (fun y => absurd ⟨hrt.mp z, un⟩ y)
          · exact yp_waitsFor hF (by omega) hb h1 h2 w1 w2 ho.1 ho.2 (fun y => absurd (hrt.mpr y.1) z) (fun _ => ⟨rfl, I'⟩)
        · exact yp_waitsFor hF (by omega) hb h1 h2 w1 w2 ho.1 ho.2 (fun y => absurd y.2 un) (fun _ => ⟨rfl, I'⟩)
      · refine xp_pair9 hb h1 h2 w1 w2 ho (br_f (by decide) ?_)
        unfold wpY_waitsFor
        dsimp only
        exact yo_begun1 h1 h2 hb (br_f (by decide) (yo_begun1 w1 w2 hb (br_f (by decide) (yo_isOpen (by omega) (fun o1 => br_f (by decide) (yo_isOpen (by omega) (fun o2 => absurd ⟨o1, o2⟩ ho) (fun _ => br_t rfl ⟨rfl, I'⟩))) (fun _ => br_t rfl ⟨rfl, I'⟩)))))
    · refine xp_pair1 hb (Or.inr h') (br_f (by decide) ?_)
      unfold wpY_waitsFor
      dsimp only
      exact yo_begun1 h1 h2 hb (br_f (by decide) (yo_begun0 h' (br_t rfl ⟨rfl, I'⟩)))
  · refine xp_pair1 hb (Or.inl h) (br_f (by decide) ?_)
    unfold wpY_waitsFor
    dsimp only
    exact yo_begun0 h (br_t rfl ⟨rfl, I'⟩)
theorem i_vc_access {k : Nat} {u : SX} {v : SY} (I : i_Rel k u v) (hk : k + 4 ≤ 2050) (v1 : Int32) (v2 : Int32) : wpX_access (fun r => wpY_access (fun r' => r' = r ∧ i_Rel (k + 4) u v) v v1 v2) u v1 v2 := by
  have I' : i_Rel (k + 4) u v := I
  obtain ⟨sl, it, b, n, c, f, st, so, pr, rf, T, X, K, lt, li, lk, lv, lt', li', lk', lv', R, S, rd, sr, mk, rfl, rfl, hI⟩ := I
  obtain ⟨hb, hn, hc, hf, hL, hL', hV, hF, hE, hRF, hA⟩ := hI
  rcases gs_tc v1 hb with ⟨t, h1, h2, rfl⟩ | h
  · by_cases ho : gs_op (st t)
    · by_cases hx : v2 < 0 ∨ ¬ v2 < it
      · unfold wpX_access wpY_access
        dsimp only
        refine xp_own3 hb h1 h2 ho hx (br_f (by decide) (yo_begun1 h1 h2 hb (br_f (by decide) (yo_isOpen (by omega) (fun _ => br_f (by decide) ?_) (fun y => absurd ho y)))))
        by_cases h0 : v2 < 0
        · exact br_t h0 ⟨rfl, I'⟩
        · exact br_f h0 (br_f (hx.resolve_left h0) ⟨rfl, I'⟩)
      · have x0 : ¬ v2 < 0 := fun z => hx (Or.inl z)
        have x1 : v2 < it := Classical.byContradiction fun z => hx (Or.inr z)
        exact xp_access hL hn hb h1 h2 ho x0 x1 (yp_access hL' hn hb h1 h2 ho x0 x1 ⟨rfl, I'⟩)
    · unfold wpX_access wpY_access
      dsimp only
      exact xp_own9 hb h1 h2 ho (br_f (by decide) (yo_begun1 h1 h2 hb (br_f (by decide) (yo_isOpen (by omega) (fun y => absurd y ho) (fun _ => br_t rfl ⟨rfl, I'⟩)))))
  · unfold wpX_access wpY_access
    dsimp only
    exact xp_own1 h (br_f (by decide) (yo_begun0 h (br_t rfl ⟨rfl, I'⟩)))
theorem i_vc_written {k : Nat} {u : SX} {v : SY} (I : i_Rel k u v) (hk : k + 4 ≤ 2050) (v1 : Int32) (v2 : Int32) : wpX_written (fun r => wpY_written (fun r' => r' = r ∧ i_Rel (k + 4) u v) v v1 v2) u v1 v2 := by
  have I' : i_Rel (k + 4) u v := I
  obtain ⟨sl, it, b, n, c, f, st, so, pr, rf, T, X, K, lt, li, lk, lv, lt', li', lk', lv', R, S, rd, sr, mk, rfl, rfl, hI⟩ := I
  obtain ⟨hb, hn, hc, hf, hL, hL', hV, hF, hE, hRF, hA⟩ := hI
  rcases gs_tc v1 hb with ⟨t, h1, h2, rfl⟩ | h
  · by_cases ho : gs_op (st t)
    · by_cases hx : v2 < 0 ∨ ¬ v2 < it
      · unfold wpX_written wpY_written
        dsimp only
        refine xp_own3 hb h1 h2 ho hx (br_f (by decide) (yo_begun1 h1 h2 hb (br_f (by decide) (yo_isOpen (by omega) (fun _ => br_f (by decide) ?_) (fun y => absurd ho y)))))
        by_cases h0 : v2 < 0
        · exact br_t h0 ⟨rfl, I'⟩
        · exact br_f h0 (br_f (hx.resolve_left h0) ⟨rfl, I'⟩)
      · have x0 : ¬ v2 < 0 := fun z => hx (Or.inl z)
        have x1 : v2 < it := Classical.byContradiction fun z => hx (Or.inr z)
        exact xp_written hL hn hb h1 h2 ho x0 x1 (yp_written hL' hn hb h1 h2 ho x0 x1 ⟨(gs_val_eq hV (fun i q => q.2.2)).symm, I'⟩)
    · unfold wpX_written wpY_written
      dsimp only
      exact xp_own9 hb h1 h2 ho (br_f (by decide) (yo_begun1 h1 h2 hb (br_f (by decide) (yo_isOpen (by omega) (fun y => absurd y ho) (fun _ => br_t rfl ⟨rfl, I'⟩)))))
  · unfold wpX_written wpY_written
    dsimp only
    exact xp_own1 h (br_f (by decide) (yo_begun0 h (br_t rfl ⟨rfl, I'⟩)))
