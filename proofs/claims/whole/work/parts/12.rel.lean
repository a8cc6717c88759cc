/-! the relation and what keeps it -/
def gs_Inv (b n c f : Nat) (st : Nat → Int32) (pr rf : Nat → Int64) (T : Nat → Nat) (X K lt li lk lv lt' li' lk' lv' : Nat → Int32) (R S : Nat → Nat) (rd sr : Nat → Int32) : Prop :=
  b ≤ 64 ∧ n ≤ 128 ∧ c ≤ 64 ∧ f ≤ n ∧ gs_Lg n b T X K lt li lk ∧ gs_Lg n b T X K lt' li' lk' ∧ (∀ j, j < n → ¬ K j &&& 2 = 0 → lv j = lv' j) ∧ gs_Fc f b R S rd sr ∧ gs_PE pr (gs_E n T X K st) ∧ gs_RF rf (gs_F f R S) ∧ (∀ z, ¬ gs_Pl (gs_E n T X K st) z z)
def i_Rel (_ : Nat) (u : SX) (v : SY) : Prop := ∃ (sl it : Int32) (b n c f : Nat) (st so : Nat → Int32) (pr rf : Nat → Int64) (T : Nat → Nat) (X K lt li lk lv lt' li' lk' lv' : Nat → Int32) (R S : Nat → Nat) (rd sr mk : Nat → Int32),
  u = (sl, it, nI b, nI n, nI c, st, pr, rf, lt, li, lk, lv, so) ∧ v = (sl, it, nI b, nI n, nI f, nI c, st, lt', li', lk', lv', rd, sr, so, mk) ∧ gs_Inv b n c f st pr rf T X K lt li lk lv lt' li' lk' lv' R S rd sr
theorem i_up {k : Nat} {u : SX} {v : SY} (h : i_Rel k u v) : i_Rel (k + 4) u v := h
section
variable {sl it : Int32} {b n c f : Nat} {st so : Nat → Int32} {pr rf : Nat → Int64} {T : Nat → Nat} {X K lt li lk lv lt' li' lk' lv' : Nat → Int32} {R S : Nat → Nat} {rd sr mk : Nat → Int32}
theorem gs_mkRel {k : Nat} (h : gs_Inv b n c f st pr rf T X K lt li lk lv lt' li' lk' lv' R S rd sr) : i_Rel k (sl, it, nI b, nI n, nI c, st, pr, rf, lt, li, lk, lv, so) (sl, it, nI b, nI n, nI f, nI c, st, lt', li', lk', lv', rd, sr, so, mk) :=
  ⟨sl, it, b, n, c, f, st, so, pr, rf, T, X, K, lt, li, lk, lv, lt', li', lk', lv', R, S, rd, sr, mk, rfl, rfl, h⟩
theorem gs_Eb (hL : gs_Lg n b T X K lt li lk) (s t : Nat) (h : gs_E n T X K st s t) : (1 ≤ s ∧ s ≤ b) ∧ (1 ≤ t ∧ t ≤ b) := ⟨(gs_E_in hL h).1, (gs_E_in hL h).2.1⟩
theorem gs_Fb (hF : gs_Fc f b R S rd sr) (t w : Nat) (h : gs_F f R S t w) : 1 ≤ w ∧ w ≤ b := by
  obtain ⟨i, hi, _, rfl⟩ := h
  exact (hF i hi).2.2.2
theorem gs_E_cb {st' : Nat → Int32} (hL : gs_Lg n b T X K lt li lk) (h : ∀ s, 1 ≤ s → s ≤ b → (st s = 5 ↔ st' s = 5)) (s t : Nat) : gs_E n T X K st s t ↔ gs_E n T X K st' s t := by
  unfold gs_E gs_Ed
  constructor
  · rintro ⟨i, j, a, d, e, e', e1, e2, e3, e4, e5⟩
    have hi := hL i (by omega)
    have hj := hL j d
    exact ⟨i, j, a, d, e, e', e1, e2, e3, fun z => e4 ((h _ hi.2.1 hi.2.2.1).mpr z), fun z => e5 ((h _ hj.2.1 hj.2.2.1).mpr z)⟩
  · rintro ⟨i, j, a, d, e, e', e1, e2, e3, e4, e5⟩
    have hi := hL i (by omega)
    have hj := hL j d
    exact ⟨i, j, a, d, e, e', e1, e2, e3, fun z => e4 ((h _ hi.2.1 hi.2.2.1).mp z), fun z => e5 ((h _ hj.2.1 hj.2.2.1).mp z)⟩
theorem gs_EA_eq {D : Nat → Prop} (hD : ∀ j, D j → 1 ≤ j ∧ j ≤ b) : gs_E n T X K (gs_abs D st b) = gs_EA (gs_E n T X K st) D :=
  funext fun s => funext fun t => propext (gs_E_ab (gs_abs_5 hD) s t)
theorem gs_Inv_st {st' : Nat → Int32} {c' : Nat} (h : gs_Inv b n c f st pr rf T X K lt li lk lv lt' li' lk' lv' R S rd sr) (hc : c' ≤ 64) (hs : ∀ s, st' s = 5 ↔ st s = 5) : gs_Inv b n c' f st' pr rf T X K lt li lk lv lt' li' lk' lv' R S rd sr := by
  obtain ⟨hb, hn, _, hf, hL, hL', hV, hF, hE, hRF, hA⟩ := h
  have e : gs_E n T X K st = gs_E n T X K st' := funext fun s => funext fun t => propext (gs_E_c (fun s => (hs s).symm) s t)
  exact ⟨hb, hn, hc, hf, hL, hL', hV, hF, e ▸ hE, hRF, e ▸ hA⟩
theorem gs_Inv_ab {lt2 li2 lk2 lv2 : Nat → Int32} {p : Nat → Int64} {t : Nat} {D : Nat → Prop} {E' : Nat → Nat → Prop} {g : (Nat → Int32) × (Nat → Int32) × Nat} (h : gs_Inv b n c f st pr rf T X K lt li lk lv lt' li' lk' lv' R S rd sr)
    (h1 : 1 ≤ t) (h2 : t ≤ b) (hD : D = gs_Dm b (gs_F f R S) st t) (hE' : E' = gs_E n T X K (gs_abs D st b)) (hg : g = gs_set b E' (64 - c) (gs_abs D st b) so c) (hp : gs_PE p E')
    (hL2 : gs_Lg n b T X K lt2 li2 lk2) (hV2 : ∀ j, j < n → ¬ K j &&& 2 = 0 → lv j = lv2 j) : gs_Inv b n g.2.2 f g.1 p rf T X K lt li lk lv lt2 li2 lk2 lv2 R S rd sr := by
  obtain ⟨hb, hn, hc, hf, hL, hL', hV, hF, hE, hRF, hA⟩ := h
  have hDb : ∀ j, D j → 1 ≤ j ∧ j ≤ b := by rw [hD]; exact gs_Dm_in h1 h2
  have q := gs_set_ab b E' (64 - c) (gs_abs D st b) so c
  rw [← hg] at q
  have e : gs_E n T X K g.1 = E' := by
    rw [hE']
    exact funext fun s => funext fun t => propext (gs_E_c q.1 s t)
  refine ⟨hb, hn, by have := q.2; omega, hf, hL, hL2, hV2, hF, by rw [e]; exact hp, hRF, ?_⟩
  rw [e, hE', gs_EA_eq hDb]
  exact gs_acm (fun s u z => z.1) hA
theorem gs_val_eq {d : Int32} {P : Nat → Prop} (hV : ∀ j, j < n → ¬ K j &&& 2 = 0 → lv j = lv' j) (hP : ∀ i, P i → ¬ K i &&& 2 = 0) : gs_val d lv (gs_lst P n) = gs_val d lv' (gs_lst P n) := by
  cases e : gs_lst P n with
  | zero => rfl
  | succ i => exact hV i (gs_lst_in e).1 (hP i (gs_lst_in e).2)
theorem gs_Inv_op {t w : Nat} {x k a z : Int32} {m : Int64} {r : Nat → Int64} {f' : Nat} {rd' sr' : Nat → Int32} (h : gs_Inv b n c f st pr rf T X K lt li lk lv lt' li' lk' lv' R S rd sr) (hn : n < 128) (h1 : 1 ≤ t) (h2 : t ≤ b) (hs : ¬ st t = 5)
    (hm : ∀ s, gs_m m s ↔ gs_Cf n T X K st t x k s) (hcy : ¬ gs_Bk (gs_Cf n T X K st t x k) (gs_E n T X K st) t) (haz : ¬ k &&& 2 = 0 → a = z) (hw : w = 0 ∨ (1 ≤ w ∧ w ≤ b))
    (hr : (¬ k &&& 1 = 0 ∧ gs_rfN st rf t w r) ∨ (k &&& 1 = 0 ∧ r = rf)) (hfc : gs_fcN st k t w f rd sr f' rd' sr') :
    ∃ R' S', gs_Inv b (n + 1) c f' st (vp_updL pr t (pr t ||| m)) r (gs_apN T n t) (upd X n x) (upd K n k) (upd lt n (nI t)) (upd li n x) (upd lk n k) (upd lv n a) (upd lt' n (nI t)) (upd li' n x) (upd lk' n k) (upd lv' n z) R' S' rd' sr' := by
  obtain ⟨hb, _, hc, hf, hL, hL', hV, hF, hE, hRF, hA⟩ := h
  have hV' : ∀ j, j < n + 1 → ¬ upd K n k j &&& 2 = 0 → upd lv n a j = upd lv' n z j := by
    intro j hj hk
    by_cases e : j = n
    · subst e
      rw [pk_us] at hk
      rw [pk_us, pk_us]
      exact haz hk
    · rw [pk_un e] at hk
      rw [pk_un e, pk_un e]
      exact hV j (by omega) hk
  have hE2 := gs_PE_app hE hs h1 (by omega) hm
  have hA2 := gs_acy (gs_E_app (X := X) (K := K) (n := n) (T := T) (x := x) (k := k) hs) hA hcy
  rcases hfc with ⟨hx, rfl, rfl, rfl⟩ | ⟨hx, rfl, rfl, rfl⟩
  · have er : r = rf := by
      rcases hr with ⟨q, hr⟩ | ⟨_, hr⟩
      · rcases hr with ⟨_, hr⟩ | ⟨hy, _⟩
        · exact hr
        · exact absurd ⟨q, hy⟩ hx
      · exact hr
    subst er
    exact ⟨R, S, hb, by omega, hc, by omega, gs_Lg_app hL h1 h2, gs_Lg_app hL' h1 h2, hV', hF, hE2, hRF, hA2⟩
  · have er : r = vp_updL rf t (rf t ||| gs_bit w) := by
      rcases hr with ⟨_, hr⟩ | ⟨q, _⟩
      · rcases hr with ⟨hy, _⟩ | ⟨_, hr⟩
        · exact absurd hx.2 hy
        · exact hr
      · exact absurd q hx.1
    subst er
    have hwb := hw.resolve_left hx.2.1
    exact ⟨gs_apN R f t, gs_apN S f w, hb, by omega, hc, by omega, gs_Lg_app hL h1 h2, gs_Lg_app hL' h1 h2, hV', gs_Fc_app hF ⟨h1, h2⟩ hwb, hE2, gs_RF_app hRF (fun s => gs_m_bit hwb.1 (by omega) s), hA2⟩
end
theorem gs_ref_go {b n : Nat} {it : Int32} {st : Nat → Int32} {t x v : Int32} (hb : b ≤ 64) (h0 : gs_ref b n it st t x v = 0) : ∃ j, 1 ≤ j ∧ j ≤ b ∧ t = nI j ∧ st j = 1 ∧ n < 128 := by
  rcases gs_ref_c (n := n) (it := it) (st := st) t x v hb with ⟨_, e⟩ | ⟨j, j1, j2, ej, h⟩
  · rw [h0] at e
    exact absurd e (by decide)
  · refine ⟨j, j1, j2, ej, ?_⟩
    rcases h with ⟨_, e⟩ | ⟨hs, ⟨_, e⟩ | ⟨x0, x1, ⟨_, e⟩ | ⟨v0, v1, ⟨_, e⟩ | ⟨hn, _⟩⟩⟩⟩
    · rw [h0] at e
      exact absurd e (by decide)
    · rw [h0] at e
      exact absurd e (by decide)
    · rw [h0] at e
      exact absurd e (by decide)
    · rw [h0] at e
      exact absurd e (by decide)
    · exact ⟨hs, hn⟩
/-! construction -/
def gs_cl (p q r : Int32) : Int32 := if q ≤ p then (if p ≤ r then p else r) else q
theorem xc_clamp {post : Int32 → Prop} {p q r : Int32} (hp : post (gs_cl p q r)) : wpX_clamp post p q r := by
  unfold gs_cl at hp
  unfold wpX_clamp
  refine br_c (fun e => ?_) (fun e => ?_)
  · rw [if_pos e] at hp
    refine br_c (fun e' => ?_) (fun e' => ?_)
    · rw [if_pos e'] at hp
      exact hp
    · rw [if_neg e'] at hp
      exact hp
  · rw [if_neg e] at hp
    exact hp
theorem yc_init {post : SY → Prop} {p q : Int32} (hp : post (gs_cl p 2 16, gs_cl q 1 8, 0, 0, 0, 0, (fun _ => 0), (fun _ => 0), (fun _ => 0), (fun _ => 0), (fun _ => 0), (fun _ => 0), (fun _ => 0), (fun _ => 0), (fun _ => 0))) : wpY_init post p q := by
  have h : ∀ z, z = gs_cl p 2 16 → wY_init_104 post q z 0 0 0 0 0 0 (fun _ => 0) (fun _ => 0) (fun _ => 0) (fun _ => 0) (fun _ => 0) (fun _ => 0) (fun _ => 0) (fun _ => 0) (fun _ => 0) := by
    rintro z rfl
    unfold wY_init_104
    generalize gs_cl p 2 16 = y at hp
    unfold gs_cl at hp
    refine br_c (fun e => ?_) (fun e => ?_)
    · rw [if_pos e] at hp
      refine br_c (fun e' => ?_) (fun e' => ?_)
      · rw [if_pos e'] at hp
        exact hp
      · rw [if_neg e'] at hp
        exact hp
    · rw [if_neg e] at hp
      exact hp
  unfold wpY_init
  unfold gs_cl at h
  refine br_c (fun e => ?_) (fun e => ?_)
  · refine br_c (fun e' => ?_) (fun e' => ?_)
    · exact h p (by rw [if_pos e, if_pos e'])
    · exact h 16 (by rw [if_pos e, if_neg e'])
  · exact h 2 (by rw [if_neg e])
theorem gs_Inv_0 : gs_Inv 0 0 0 0 (fun _ => 0) (fun _ => 0) (fun _ => 0) (fun _ => 0) (fun _ => 0) (fun _ => 0) (fun _ => 0) (fun _ => 0) (fun _ => 0) (fun _ => 0) (fun _ => 0) (fun _ => 0) (fun _ => 0) (fun _ => 0) (fun _ => 0) (fun _ => 0) (fun _ => 0) (fun _ => 0) := by
  have nE : ∀ s t, ¬ gs_E 0 (fun _ => 0) (fun _ => 0) (fun _ => 0) (fun _ => 0) s t := fun s t ⟨i, j, _, hj, _⟩ => absurd hj (by omega)
  refine ⟨by omega, by omega, by omega, by omega, fun j h => absurd h (by omega), fun j h => absurd h (by omega), fun j h => absurd h (by omega), fun j h => absurd h (by omega), fun t _ _ s => ⟨fun h => absurd h (gs_m_0 s), fun h => absurd h (nE s t)⟩, fun t _ _ s => ⟨fun h => absurd h (gs_m_0 s), fun ⟨i, hi, _⟩ => absurd hi (by omega)⟩, ?_⟩
  intro z h
  exact gs_L_i (A := fun _ => False) (fun c hc => nE _ _ hc) (fun _ _ h _ => h) h
theorem i_vc0 (k0 : Int32) (k1 : Int32) : wpX_init (fun u => wpY_init (fun v => i_Rel 2 u v) k0 k1) k0 k1 := by
  unfold wpX_init
  exact xc_clamp (xc_clamp (yc_init (gs_mkRel (b := 0) (n := 0) (c := 0) (f := 0) gs_Inv_0)))
