/-! X: public calls -/
def gs_ref (b n : Nat) (it : Int32) (st : Nat → Int32) (t x v : Int32) : Int32 :=
  if t < 1 ∨ (¬ t < 1 ∧ ¬ t ≤ nI b) then -1 else if ¬ st t.toNatClampNeg = 1 then -2 else if x < 0 ∨ ¬ x < it then -3 else if v < 0 ∨ ¬ v ≤ 999 then -4 else if 128 ≤ n then -5 else 0
/-- Xes of a refusal, for both sides -/
theorem gs_ref_c {b n : Nat} {it : Int32} {st : Nat → Int32} (t x v : Int32) (hb : b ≤ 64) :
    ((t < 1 ∨ (¬ t < 1 ∧ ¬ t ≤ nI b)) ∧ gs_ref b n it st t x v = -1) ∨ ∃ j, 1 ≤ j ∧ j ≤ b ∧ t = nI j ∧ ((¬ st j = 1 ∧ gs_ref b n it st t x v = -2) ∨ (st j = 1 ∧ (((x < 0 ∨ ¬ x < it) ∧ gs_ref b n it st t x v = -3) ∨ (¬ x < 0 ∧ x < it ∧
      (((v < 0 ∨ ¬ v ≤ 999) ∧ gs_ref b n it st t x v = -4) ∨ (¬ v < 0 ∧ v ≤ 999 ∧ ((128 ≤ n ∧ gs_ref b n it st t x v = -5) ∨ (n < 128 ∧ gs_ref b n it st t x v = 0)))))))) := by
  unfold gs_ref
  rcases gs_tc t hb with ⟨j, h1, h2, rfl⟩ | h
  · refine Or.inr ⟨j, h1, h2, rfl, ?_⟩
    have hn : ¬ (nI j < 1 ∨ (¬ nI j < 1 ∧ ¬ nI j ≤ nI b)) := by
      rintro (h | h)
      · have := (nI_ltI (b := 1) (by omega) (by omega)).mp h
        omega
      · exact h.2 (nI_le h2 (by omega))
    rw [if_neg hn, nI_clamp (show j < 2 ^ 31 by omega)]
    by_cases hs : st j = 1
    · refine Or.inr ⟨hs, ?_⟩
      rw [if_neg (fun z => z hs)]
      by_cases hx : x < 0 ∨ ¬ x < it
      · exact Or.inl ⟨hx, if_pos hx⟩
      · rw [if_neg hx]
        refine Or.inr ⟨fun z => hx (Or.inl z), Classical.byContradiction fun z => hx (Or.inr z), ?_⟩
        by_cases hv : v < 0 ∨ ¬ v ≤ 999
        · exact Or.inl ⟨hv, if_pos hv⟩
        · rw [if_neg hv]
          refine Or.inr ⟨fun z => hv (Or.inl z), Classical.byContradiction fun z => hv (Or.inr z), ?_⟩
          by_cases hn : 128 ≤ n
          · exact Or.inl ⟨hn, if_pos hn⟩
          · exact Or.inr ⟨by omega, if_neg hn⟩
    · exact Or.inl ⟨hs, if_pos hs⟩
  · exact Or.inl ⟨h, if_pos h⟩
section
variable {sl it : Int32} {b n c : Nat} {st : Nat → Int32} {pr rf : Nat → Int64} {lt li lk lv so : Nat → Int32} {T : Nat → Nat} {X K : Nat → Int32}
theorem xp_ref {post : Int32 → Prop} {t x v : Int32} (hb : b ≤ 64) (hn : n ≤ 128) (hp : post (gs_ref b n it st t x v)) : wpX_operationRefusal post (sl, it, nI b, nI n, nI c, st, pr, rf, lt, li, lk, lv, so) t x v := by
  unfold wpX_operationRefusal
  dsimp only
  rcases gs_ref_c (n := n) (it := it) (st := st) t x v hb with ⟨h, e⟩ | ⟨j, h1, h2, rfl, h⟩
  · rw [e] at hp
    exact xo_begun0 h (br_t rfl hp)
  · have hin : vp_in (nI j) 65 := vp_in_nI (by omega) (by omega)
    have hcl : (nI j).toNatClampNeg = j := nI_clamp (by omega)
    refine xo_begun1 h1 h2 hb (br_f (by decide) ⟨hin, ?_⟩)
    rw [hcl]
    rcases h with ⟨h, e⟩ | ⟨hs, h⟩
    · rw [e] at hp
      exact br_f h hp
    · refine br_t hs ?_
      rcases h with ⟨h, e⟩ | ⟨x0, x1, h⟩
      · rw [e] at hp
        exact xo_item0 h (br_t rfl hp)
      · refine xo_item1 x0 x1 (br_f (by decide) ?_)
        rcases h with ⟨h, e⟩ | ⟨v0, v1, h⟩
        · rw [e] at hp
          by_cases h0 : v < 0
          · exact br_t h0 hp
          · exact br_f h0 (br_f (h.resolve_left h0) hp)
        · refine br_f v0 (br_t v1 ?_)
          rcases h with ⟨h, e⟩ | ⟨h, e⟩
          · rw [e] at hp
            exact pk_lt n 128 (fun z => absurd z (by omega)) (fun _ => hp)
          · rw [e] at hp
            exact pk_lt n 128 (fun _ => hp) (fun z => absurd z (by omega))
theorem xp_read0 {post : Int32 → St2 → Prop} {t x : Int32} (hb : b ≤ 64) (hn : n ≤ 128) (h : ¬ gs_ref b n it st t x 0 = 0) (hp : post (gs_ref b n it st t x 0) (sl, it, nI b, nI n, nI c, st, pr, rf, lt, li, lk, lv, so)) : wpX_read post (sl, it, nI b, nI n, nI c, st, pr, rf, lt, li, lk, lv, so) t x := by
  unfold wpX_read
  dsimp only
  exact xp_ref hb hn (br_f h hp)
theorem xp_write0 {post : Int32 → St2 → Prop} {t x v : Int32} (hb : b ≤ 64) (hn : n ≤ 128) (h : ¬ gs_ref b n it st t x v = 0) (hp : post (gs_ref b n it st t x v) (sl, it, nI b, nI n, nI c, st, pr, rf, lt, li, lk, lv, so)) : wpX_write post (sl, it, nI b, nI n, nI c, st, pr, rf, lt, li, lk, lv, so) t x v := by
  unfold wpX_write
  dsimp only
  exact xp_ref hb hn (br_f h hp)
theorem xp_add0 {post : Int32 → St2 → Prop} {t x v : Int32} (hb : b ≤ 64) (hn : n ≤ 128) (h : ¬ gs_ref b n it st t x v = 0) (hp : post (gs_ref b n it st t x v) (sl, it, nI b, nI n, nI c, st, pr, rf, lt, li, lk, lv, so)) : wpX_add post (sl, it, nI b, nI n, nI c, st, pr, rf, lt, li, lk, lv, so) t x v := by
  unfold wpX_add
  dsimp only
  exact xp_ref hb hn (br_f h hp)
/-- what readFrom is behind a reading of t, whose source would be w -/
def gs_rfN (st : Nat → Int32) (rf : Nat → Int64) (t w : Nat) (r : Nat → Int64) : Prop :=
  (¬ (w ≠ 0 ∧ w ≠ t ∧ gs_un (st w)) ∧ r = rf) ∨ ((w ≠ 0 ∧ w ≠ t ∧ gs_un (st w)) ∧ r = vp_updL rf t (rf t ||| gs_bit w))
theorem xp_read {post : Int32 → St2 → Prop} {E F : Nat → Nat → Prop} {t : Nat} {x : Int32} (hb : b ≤ 64) (hc : c ≤ 64) (hn : n < 128) (hL : gs_Lg n b T X K lt li lk) (hE : gs_PE pr E) (hEb : ∀ s t, E s t → (1 ≤ s ∧ s ≤ b) ∧ (1 ≤ t ∧ t ≤ b)) (hF : gs_RF rf F)
    (h1 : 1 ≤ t) (h2 : t ≤ b) (h0 : gs_ref b n it st (nI t) x 0 = 0) {D : Nat → Prop} (hD : D = gs_Dm b F st t) {E' : Nat → Nat → Prop} (hE' : E' = gs_EA E D) {g : (Nat → Int32) × (Nat → Int32) × Nat} (hg : g = gs_set b E' (64 - c) (gs_abs D st b) so c)
    (pC : gs_Bk (gs_Cf n T X K st t x 1) E t → ∀ p, gs_PE p E' → post (-6) (sl, it, nI b, nI n, nI (g.2.2), g.1, p, rf, lt, li, lk, lv, g.2.1))
    (pG : ¬ gs_Bk (gs_Cf n T X K st t x 1) E t → ∀ w, (∀ s, gs_m w s ↔ gs_Cf n T X K st t x 1 s) → ∀ r, gs_rfN st rf t (gs_wrt T (gs_lst (gs_Wr T X K st x) n)) r →
      post (gs_val 0 lv (gs_lst (gs_Wr T X K st x) n)) (sl, it, nI b, nI (n + 1), nI c, st, vp_updL pr t (pr t ||| w), r, upd lt n (nI t), upd li n x, upd lk n 1, upd lv n (gs_val 0 lv (gs_lst (gs_Wr T X K st x) n)), so)) : wpX_read post (sl, it, nI b, nI n, nI c, st, pr, rf, lt, li, lk, lv, so) (nI t) x := by
  unfold wpX_read
  dsimp only
  refine xp_ref hb (by omega) ?_
  rw [h0]
  refine br_t rfl (xl_conf hL (by omega) hb h2 (fun w hw => ?_))
  have hk : gs_Bk (gs_m w) E t ↔ gs_Bk (gs_Cf n T X K st t x 1) E t := gs_L_c hw (fun _ _ => Iff.rfl) t
  refine xl_cyc hb hE hEb (fun s h => gs_Cf_in hL ((hw s).mp h)) h1 h2 (fun z => ?_) (fun z => ?_)
  · exact br_f (by decide) (xo_abort hb hc hE hEb hF h1 h2 hD hE' hg (fun p hp => pC (hk.mp z) p hp))
  · have z' := fun y => z (hk.mpr y)
    refine br_t rfl (xl_cur hL (by omega) hb (xl_note hL (by omega) hb h2 rfl (fun q => ?_) (fun q1 q2 q3 => ?_)))
    · exact xl_enter hn hb h2 (pG z' w hw rf (Or.inl ⟨q, rfl⟩))
    · exact xl_enter hn hb h2 (pG z' w hw _ (Or.inr ⟨⟨q1, q2, q3⟩, rfl⟩))
theorem xp_write {post : Int32 → St2 → Prop} {E F : Nat → Nat → Prop} {t : Nat} {x v : Int32} (hb : b ≤ 64) (hc : c ≤ 64) (hn : n < 128) (hL : gs_Lg n b T X K lt li lk) (hE : gs_PE pr E) (hEb : ∀ s t, E s t → (1 ≤ s ∧ s ≤ b) ∧ (1 ≤ t ∧ t ≤ b)) (hF : gs_RF rf F)
    (h1 : 1 ≤ t) (h2 : t ≤ b) (h0 : gs_ref b n it st (nI t) x v = 0) {D : Nat → Prop} (hD : D = gs_Dm b F st t) {E' : Nat → Nat → Prop} (hE' : E' = gs_EA E D) {g : (Nat → Int32) × (Nat → Int32) × Nat} (hg : g = gs_set b E' (64 - c) (gs_abs D st b) so c)
    (pC : gs_Bk (gs_Cf n T X K st t x 2) E t → ∀ p, gs_PE p E' → post (-6) (sl, it, nI b, nI n, nI (g.2.2), g.1, p, rf, lt, li, lk, lv, g.2.1))
    (pG : ¬ gs_Bk (gs_Cf n T X K st t x 2) E t → ∀ w, (∀ s, gs_m w s ↔ gs_Cf n T X K st t x 2 s) →
      post 0 (sl, it, nI b, nI (n + 1), nI c, st, vp_updL pr t (pr t ||| w), rf, upd lt n (nI t), upd li n x, upd lk n 2, upd lv n v, so)) : wpX_write post (sl, it, nI b, nI n, nI c, st, pr, rf, lt, li, lk, lv, so) (nI t) x v := by
  unfold wpX_write
  dsimp only
  refine xp_ref hb (by omega) ?_
  rw [h0]
  refine br_t rfl (xl_conf hL (by omega) hb h2 (fun w hw => ?_))
  have hk : gs_Bk (gs_m w) E t ↔ gs_Bk (gs_Cf n T X K st t x 2) E t := gs_L_c hw (fun _ _ => Iff.rfl) t
  refine xl_cyc hb hE hEb (fun s h => gs_Cf_in hL ((hw s).mp h)) h1 h2 (fun z => ?_) (fun z => ?_)
  · exact br_f (by decide) (xo_abort hb hc hE hEb hF h1 h2 hD hE' hg (fun p hp => pC (hk.mp z) p hp))
  · exact br_t rfl (xl_enter hn hb h2 (pG (fun y => z (hk.mpr y)) w hw))
theorem xp_add {post : Int32 → St2 → Prop} {E F : Nat → Nat → Prop} {t : Nat} {x v a : Int32} (hb : b ≤ 64) (hc : c ≤ 64) (hn : n < 128) (hL : gs_Lg n b T X K lt li lk) (hE : gs_PE pr E) (hEb : ∀ s t, E s t → (1 ≤ s ∧ s ≤ b) ∧ (1 ≤ t ∧ t ≤ b)) (hF : gs_RF rf F)
    (h1 : 1 ≤ t) (h2 : t ≤ b) (h0 : gs_ref b n it st (nI t) x v = 0) {D : Nat → Prop} (hD : D = gs_Dm b F st t) {E' : Nat → Nat → Prop} (hE' : E' = gs_EA E D) {g : (Nat → Int32) × (Nat → Int32) × Nat} (hg : g = gs_set b E' (64 - c) (gs_abs D st b) so c)
    (ha : a = (gs_val 0 lv (gs_lst (gs_Wr T X K st x) n) + v) - (gs_val 0 lv (gs_lst (gs_Wr T X K st x) n) + v) / 1000 * 1000)
    (pC : gs_Bk (gs_Cf n T X K st t x 3) E t → ∀ p, gs_PE p E' → post (-6) (sl, it, nI b, nI n, nI (g.2.2), g.1, p, rf, lt, li, lk, lv, g.2.1))
    (pG : ¬ gs_Bk (gs_Cf n T X K st t x 3) E t → ∀ w, (∀ s, gs_m w s ↔ gs_Cf n T X K st t x 3 s) → ∀ r, gs_rfN st rf t (gs_wrt T (gs_lst (gs_Wr T X K st x) n)) r →
      post a (sl, it, nI b, nI (n + 1), nI c, st, vp_updL pr t (pr t ||| w), r, upd lt n (nI t), upd li n x, upd lk n 3, upd lv n a, so)) : wpX_add post (sl, it, nI b, nI n, nI c, st, pr, rf, lt, li, lk, lv, so) (nI t) x v := by
  unfold wpX_add
  dsimp only
  refine xp_ref hb (by omega) ?_
  rw [h0]
  refine br_t rfl (xl_conf hL (by omega) hb h2 (fun w hw => ?_))
  have hk : gs_Bk (gs_m w) E t ↔ gs_Bk (gs_Cf n T X K st t x 3) E t := gs_L_c hw (fun _ _ => Iff.rfl) t
  refine xl_cyc hb hE hEb (fun s h => gs_Cf_in hL ((hw s).mp h)) h1 h2 (fun z => ?_) (fun z => ?_)
  · exact br_f (by decide) (xo_abort hb hc hE hEb hF h1 h2 hD hE' hg (fun p hp => pC (hk.mp z) p hp))
  · have z' := fun y => z (hk.mpr y)
    refine br_t rfl (xl_cur hL (by omega) hb ⟨by decide, nm_r ha.symm (xl_note hL (by omega) hb h2 rfl (fun q => ?_) (fun q1 q2 q3 => ?_))⟩)
    · exact xl_enter hn hb h2 (pG z' w hw rf (Or.inl ⟨q, rfl⟩))
    · exact xl_enter hn hb h2 (pG z' w hw _ (Or.inr ⟨⟨q1, q2, q3⟩, rfl⟩))
theorem xp_settledValue {post : Int32 → Prop} {x : Int32} (hL : gs_Lg n b T X K lt li lk) (hn : n ≤ 128) (hb : b ≤ 64) (x0 : ¬ x < 0) (x1 : x < it) (hp : post (gs_val 0 lv (gs_lst (gs_Ws T X K st x) n))) : wpX_settledValue post (sl, it, nI b, nI n, nI c, st, pr, rf, lt, li, lk, lv, so) x := by
  unfold wpX_settledValue
  dsimp only
  refine xo_item1 x0 x1 (br_f (by decide) (nm_e ⟨n + 1, ?_⟩))
  refine pk_loopD (σ := Unit) (fun m i _ => wX_settledValue_18 post x sl it (nI b) (nI n) (nI c) st pr rf lt li lk lv so m (nI i - 1)) (fun i _ => i ≤ n ∧ gs_lst (gs_Ws T X K st x) i = gs_lst (gs_Ws T X K st x) n) ?_ ?_ n () ⟨Nat.le_refl n, rfl⟩
  · intro m _ h
    rw [← h.2] at hp
    exact br_t gs_dn0 hp
  · intro m i _ h k
    rw [nI_pred]
    have hi := hL i (by omega)
    have hin : vp_in (nI i) 128 := vp_in_nI (by omega) (by omega)
    have hcl : (nI i).toNatClampNeg = i := nI_clamp (by omega)
    have hct : (nI (T i)).toNatClampNeg = T i := nI_clamp (by omega)
    refine br_f (nI_pos (by omega)) ?_
    refine xl_writesItem hL hn (by omega) (fun a => ?_) (fun a => ?_)
    · refine br_f (by decide) ⟨hin, ?_⟩
      rw [hcl, hi.1, hct]
      refine ⟨vp_in_nI (by omega) (by omega), br_c (fun d => ?_) (fun d => ?_)⟩
      · rw [gs_lst_t ⟨a, d⟩] at h
        rw [← h.2] at hp
        exact ⟨hin, hp⟩
      · rw [gs_lst_f (fun z => d z.2)] at h
        exact nm_r (gs_dn i) (k () ⟨by omega, h.2⟩)
    · rw [gs_lst_f (fun z => a z.1)] at h
      exact br_t rfl (nm_r (gs_dn i) (k () ⟨by omega, h.2⟩))
end
