/-! the reference: operate, and the calls that only look -/
section
variable {sl it : Int32} {b n f c : Nat} {st lt li lk lv rd sr so mk : Nat → Int32} {T : Nat → Nat} {X K : Nat → Int32} {R S : Nat → Nat}
theorem yp_ref {post : Int32 → SY → Prop} {t x k v : Int32} (hb : b ≤ 64) (hn : n ≤ 128) (h0 : ¬ gs_ref b n it st t x v = 0) (hp : post (gs_ref b n it st t x v) (sl, it, nI b, nI n, nI f, nI c, st, lt, li, lk, lv, rd, sr, so, mk)) : wpY_operate post (sl, it, nI b, nI n, nI f, nI c, st, lt, li, lk, lv, rd, sr, so, mk) t x k v := by
  unfold wpY_operate
  dsimp only
  rcases gs_ref_c (n := n) (it := it) (st := st) t x v hb with ⟨h, e⟩ | ⟨j, h1, h2, rfl, h⟩
  · rw [e] at hp
    exact yo_begun0 h (br_t rfl hp)
  · have hin : vp_in (nI j) 65 := vp_in_nI (by omega) (by omega)
    have hcl : (nI j).toNatClampNeg = j := nI_clamp (by omega)
    refine yo_begun1 h1 h2 hb (br_f (by decide) ⟨hin, ?_⟩)
    rw [hcl]
    rcases h with ⟨h, e⟩ | ⟨hs, h⟩
    · rw [e] at hp
      exact br_f h hp
    · refine br_t hs ?_
      rcases h with ⟨h, e⟩ | ⟨x0, x1, h⟩
      · rw [e] at hp
        by_cases x0 : x < 0
        · exact br_t x0 hp
        · exact br_f x0 (br_f (h.resolve_left x0) hp)
      · refine br_f x0 (br_t x1 ?_)
        rcases h with ⟨h, e⟩ | ⟨v0, v1, h⟩
        · rw [e] at hp
          by_cases v0 : v < 0
          · exact br_t v0 hp
          · exact br_f v0 (br_f (h.resolve_left v0) hp)
        · refine br_f v0 (br_t v1 ?_)
          rcases h with ⟨h, e⟩ | ⟨h, e⟩
          · rw [e] at hp
            exact pk_lt n 128 (fun z => absurd z (by omega)) (fun _ => hp)
          · exact absurd e h0
/-- what the facts are behind a reading of t, whose source would be w -/
def gs_fcN (st : Nat → Int32) (k : Int32) (t w f : Nat) (rd sr : Nat → Int32) (f' : Nat) (rd' sr' : Nat → Int32) : Prop :=
  (¬ (¬ k &&& 1 = 0 ∧ w ≠ 0 ∧ w ≠ t ∧ gs_un (st w)) ∧ f' = f ∧ rd' = rd ∧ sr' = sr) ∨ ((¬ k &&& 1 = 0 ∧ w ≠ 0 ∧ w ≠ t ∧ gs_un (st w)) ∧ f' = f + 1 ∧ rd' = upd rd f (nI t) ∧ sr' = upd sr f (nI w))
theorem yp_op {post : Int32 → SY → Prop} {t w : Nat} {x k v z a cv : Int32} (hL : gs_Lg n b T X K lt li lk) (hn : n < 128) (hb : b ≤ 64) (hc : c ≤ 64) (hF : gs_Fc f b R S rd sr) (hf : f ≤ n) (h1 : 1 ≤ t) (h2 : t ≤ b) (h0 : gs_ref b n it st (nI t) x v = 0)
    {D : Nat → Prop} (hD : D = gs_Dm b (gs_F f R S) st t) {E' : Nat → Nat → Prop} (hE' : E' = gs_E n T X K (gs_abs D st b)) {g : (Nat → Int32) × (Nat → Int32) × Nat} (hg : g = gs_set b E' (64 - c) (gs_abs D st b) so c)
    (hcv : cv = gs_val 0 lv (gs_lst (gs_Wr T X K st x) n)) (hw : w = gs_wrt T (gs_lst (gs_Wr T X K st x) n)) (hz : (k = 3 → z = (cv + v) - (cv + v) / 1000 * 1000) ∧ (¬ k = 3 → z = v)) (ha : (k = 1 → a = cv) ∧ (k = 3 → a = z) ∧ (¬ k = 1 → ¬ k = 3 → a = 0))
    (pC : gs_Pl (gs_E (n + 1) (gs_apN T n t) (upd X n x) (upd K n k) st) t t → ∀ mk, post (-6) (sl, it, nI b, nI n, nI f, nI (g.2.2), g.1, upd lt n (nI t), upd li n x, upd lk n k, upd lv n z, rd, sr, g.2.1, mk))
    (pG : ¬ gs_Pl (gs_E (n + 1) (gs_apN T n t) (upd X n x) (upd K n k) st) t t → ∀ mk f' rd' sr', gs_fcN st k t w f rd sr f' rd' sr' →
      post a (sl, it, nI b, nI (n + 1), nI (f'), nI c, st, upd lt n (nI t), upd li n x, upd lk n k, upd lv n z, rd', sr', so, mk)) : wpY_operate post (sl, it, nI b, nI n, nI f, nI c, st, lt, li, lk, lv, rd, sr, so, mk) (nI t) x k v := by
  have hin : vp_in (nI t) 65 := vp_in_nI (by omega) (by omega)
  have hcl : (nI t).toNatClampNeg = t := nI_clamp (by omega)
  have nin : vp_in (nI n) 128 := vp_in_nI (by omega) (by omega)
  have ncl : (nI n).toNatClampNeg = n := nI_clamp (by omega)
  have fin : vp_in (nI f) 128 := vp_in_nI (by omega) (by omega)
  have fcl : (nI f).toNatClampNeg = f := nI_clamp (by omega)
  have hwb := gs_wrt_in (P := gs_Wr T X K st x) hL
  rw [← hw] at hwb
  have hgo : st t = 1 ∧ ¬ x < 0 ∧ x < it ∧ ¬ v < 0 ∧ v ≤ 999 := by
    rcases gs_ref_c (n := n) (it := it) (st := st) (nI t) x v hb with ⟨_, e⟩ | ⟨j, j1, j2, ej, h⟩
    · rw [h0] at e
      exact absurd e (by decide)
    · have ej : t = j := (nI_eq (by omega) (by omega)).mp ej
      subst ej
      rcases h with ⟨_, e⟩ | ⟨hs, ⟨_, e⟩ | ⟨x0, x1, ⟨_, e⟩ | ⟨v0, v1, _⟩⟩⟩
      · rw [h0] at e
        exact absurd e (by decide)
      · rw [h0] at e
        exact absurd e (by decide)
      · rw [h0] at e
        exact absurd e (by decide)
      · exact ⟨hs, x0, x1, v0, v1⟩
  have h277 : ¬ gs_Pl (gs_E (n + 1) (gs_apN T n t) (upd X n x) (upd K n k) st) t t → ∀ mk f' rd' sr', gs_fcN st k t w f rd sr f' rd' sr' →
      wY_operate_277 post k cv z sl it (nI b) (nI (n + 1)) (nI (f')) (nI c) st (upd lt n (nI t)) (upd li n x) (upd lk n k) (upd lv n z) (rd') (sr') so mk := by
    intro hp mk f' rd' sr' hfc
    have q := pG hp mk f' rd' sr' hfc
    unfold wY_operate_277
    refine br_c (fun e => ?_) (fun e1 => br_c (fun e => ?_) (fun e => ?_))
    · rw [ha.1 e] at q
      exact q
    · rw [ha.2.1 e] at q
      exact q
    · rw [ha.2.2 e1 e] at q
      exact q
  have h129 : ∀ y, y = z → wY_operate_129 post (nI t) x k cv (nI w) y sl it (nI b) (nI n) (nI f) (nI c) st lt li lk lv rd sr so mk := by
    rintro y rfl
    unfold wY_operate_129
    rw [ncl]
    refine ⟨nin, nm_e ⟨nin, nm_e ⟨nin, nm_e ⟨nin, nm_e (nm_r (nI_1 n) ?_)⟩⟩⟩⟩
    refine yl_path (gs_Lg_app hL h1 h2) (by omega) hb (by omega) (by omega) (fun hp mk => ?_) (fun hp mk => ?_)
    · refine br_f (by decide) (nm_r (nI_pred n) ?_)
      exact yl_abort (gs_Lg_keep hL _ _ _) (by omega) hb hc hF (by omega) h1 h2 hD hE' hg (pC hp)
    · have h77 := h277 hp mk
      have no : ¬ (¬ k &&& 1 = 0 ∧ w ≠ 0 ∧ w ≠ t ∧ gs_un (st w)) → wY_operate_277 post k cv y sl it (nI b) (nI (n + 1)) (nI f) (nI c) st (upd lt n (nI t)) (upd li n x) (upd lk n k) (upd lv n y) rd sr so mk := fun hx => h77 f rd sr (Or.inl ⟨hx, rfl, rfl, rfl⟩)
      refine br_t rfl (br_c (fun e => no (fun q => q.1 e)) (fun ek => ?_))
      refine pk_eq w 0 (fun e => no (fun q => q.2.1 e)) (fun e => ?_)
      refine pk_eq w t (fun e' => no (fun q => q.2.2.1 e')) (fun e' => ?_)
      refine yo_isUnf (by omega) (fun u => br_f (by decide) ?_) (fun u => br_t rfl (no (fun q => u q.2.2.2)))
      refine pk_le 128 f (fun h => absurd h (by omega)) (fun _ => ?_)
      rw [fcl]
      exact ⟨fin, nm_e ⟨fin, nm_e (nm_r (nI_1 f) (h77 (f + 1) _ _ (Or.inr ⟨⟨ek, e, e', u⟩, rfl, rfl, rfl⟩)))⟩⟩
  have h108 : wY_operate_108 post (nI t) x k v cv (nI w) sl it (nI b) (nI n) (nI f) (nI c) st lt li lk lv rd sr so mk := by
    unfold wY_operate_108
    exact br_c (fun e => ⟨by decide, h129 _ (hz.1 e).symm⟩) (fun e => h129 _ (hz.2 e).symm)
  unfold wpY_operate
  dsimp only
  refine yo_begun1 h1 h2 hb (br_f (by decide) ⟨hin, ?_⟩)
  rw [hcl]
  refine br_t hgo.1 (br_f hgo.2.1 (br_t hgo.2.2.1 (br_f hgo.2.2.2.1 (br_t hgo.2.2.2.2 (pk_lt n 128 (fun _ => ?_) (fun h => absurd h (by omega)))))))
  rw [hcv, hw] at h108
  refine yl_lastWrite hL (by omega) hb (fun e => ?_) (fun i e => ?_)
  · rw [e] at h108
    refine br_t (by decide) ?_
    unfold wY_operate_90
    exact br_t (by decide) h108
  · have hi := (gs_lst_in e).1
    rw [e] at h108
    have iin : vp_in (nI i) 128 := vp_in_nI (by omega) (by omega)
    have icl : (nI i).toNatClampNeg = i := nI_clamp (by omega)
    refine br_f (nI_pos (by omega)) ⟨iin, ?_⟩
    unfold wY_operate_90
    rw [icl, (hL i hi).1]
    exact br_f (nI_pos (by omega)) ⟨iin, h108⟩
theorem yp_settledValue {post : Int32 → Prop} {x : Int32} (hL : gs_Lg n b T X K lt li lk) (hn : n ≤ 128) (hb : b ≤ 64) (x0 : ¬ x < 0) (x1 : x < it) (hp : post (gs_val 0 lv (gs_lst (gs_Ws T X K st x) n))) : wpY_settledValue post (sl, it, nI b, nI n, nI f, nI c, st, lt, li, lk, lv, rd, sr, so, mk) x := by
  unfold wpY_settledValue
  dsimp only
  refine br_f x0 (br_t x1 (nm_e ⟨n + 1, ?_⟩))
  refine pk_loopD (σ := Unit) (fun m i _ => wY_settledValue_22 post x sl it (nI b) (nI n) (nI f) (nI c) st lt li lk lv rd sr so mk m (nI i - 1)) (fun i _ => i ≤ n ∧ gs_lst (gs_Ws T X K st x) i = gs_lst (gs_Ws T X K st x) n) ?_ ?_ n () ⟨Nat.le_refl n, rfl⟩
  · intro m _ h
    rw [← h.2] at hp
    exact br_t gs_dn0 hp
  · intro m i _ h k
    rw [nI_pred]
    have hi := hL i (by omega)
    have hin : vp_in (nI i) 128 := vp_in_nI (by omega) (by omega)
    have hcl : (nI i).toNatClampNeg = i := nI_clamp (by omega)
    have hct : (nI (T i)).toNatClampNeg = T i := nI_clamp (by omega)
    refine br_f (nI_pos (by omega)) ⟨hin, ?_⟩
    rw [hcl, hi.1, hi.2.2.2.1, hi.2.2.2.2, hct]
    refine br_c (fun a => ⟨hin, br_c (fun d => ?_) (fun d => ⟨hin, vp_in_nI (by omega) (by omega), br_c (fun z => ?_) (fun z => ?_)⟩)⟩) (fun a => ?_)
    · rw [gs_lst_f (fun y => y.1.2 d)] at h
      exact nm_r (gs_dn i) (k () ⟨by omega, h.2⟩)
    · rw [gs_lst_t ⟨⟨a, d⟩, z⟩] at h
      rw [← h.2] at hp
      exact ⟨hin, hp⟩
    · rw [gs_lst_f (fun y => z y.2)] at h
      exact nm_r (gs_dn i) (k () ⟨by omega, h.2⟩)
    · rw [gs_lst_f (fun y => a y.1.1)] at h
      exact nm_r (gs_dn i) (k () ⟨by omega, h.2⟩)
theorem yp_access {post : Int32 → Prop} {t : Nat} {x : Int32} (hL : gs_Lg n b T X K lt li lk) (hn : n ≤ 128) (hb : b ≤ 64) (h1 : 1 ≤ t) (h2 : t ≤ b) (ho : gs_op (st t)) (x0 : ¬ x < 0) (x1 : x < it) (hp : post (gs_acc T X K t x n)) : wpY_access post (sl, it, nI b, nI n, nI f, nI c, st, lt, li, lk, lv, rd, sr, so, mk) (nI t) x := by
  unfold wpY_access
  dsimp only
  refine yo_begun1 h1 h2 hb (br_f (by decide) (yo_isOpen (by omega) (fun _ => br_f (by decide) (br_f x0 (br_t x1 ?_))) (fun z => absurd ho z)))
  refine pk_loop (σ := Int32) (fun m i s => wY_access_41 post (nI t) x sl it (nI b) (nI n) (nI f) (nI c) st lt li lk lv rd sr so mk m s (nI i)) (fun i s => s = gs_acc T X K t x i) n 0 0 (Nat.zero_le n) rfl ?_ ?_
  · intro m s hs
    subst hs
    exact pk_le n n (fun _ => hp) (fun h => absurd h (by omega))
  · intro m i s hi hs k
    subst hs
    have h := hL i hi
    have hin : vp_in (nI i) 128 := vp_in_nI (by omega) (by omega)
    have hcl : (nI i).toNatClampNeg = i := nI_clamp (by omega)
    refine pk_le n i (fun h => absurd h (by omega)) (fun _ => ⟨hin, ?_⟩)
    rw [hcl, h.1, h.2.2.2.1, h.2.2.2.2]
    refine pk_eq (T i) t (fun e => ⟨hin, br_c (fun ex => ⟨hin, nm_e (nm_r (nI_1 i) (k _ (gs_acc_t ⟨e, ex⟩)))⟩) (fun ex => nm_r (nI_1 i) (k _ (gs_acc_f (fun z => ex z.2))))⟩) (fun e => nm_r (nI_1 i) (k _ (gs_acc_f (fun z => e z.1))))
theorem yp_written {post : Int32 → Prop} {t : Nat} {x : Int32} (hL : gs_Lg n b T X K lt li lk) (hn : n ≤ 128) (hb : b ≤ 64) (h1 : 1 ≤ t) (h2 : t ≤ b) (ho : gs_op (st t)) (x0 : ¬ x < 0) (x1 : x < it) (hp : post (gs_val (-10) lv (gs_lst (gs_Wt T X K t x) n))) : wpY_written post (sl, it, nI b, nI n, nI f, nI c, st, lt, li, lk, lv, rd, sr, so, mk) (nI t) x := by
  unfold wpY_written
  dsimp only
  refine yo_begun1 h1 h2 hb (br_f (by decide) (yo_isOpen (by omega) (fun _ => br_f (by decide) (br_f x0 (br_t x1 (nm_e ⟨n + 1, ?_⟩)))) (fun z => absurd ho z)))
  refine pk_loopD (σ := Unit) (fun m i _ => wY_written_43 post (nI t) x sl it (nI b) (nI n) (nI f) (nI c) st lt li lk lv rd sr so mk m (nI i - 1)) (fun i _ => i ≤ n ∧ gs_lst (gs_Wt T X K t x) i = gs_lst (gs_Wt T X K t x) n) ?_ ?_ n () ⟨Nat.le_refl n, rfl⟩
  · intro m _ h
    rw [← h.2] at hp
    exact br_t gs_dn0 hp
  · intro m i _ h k
    rw [nI_pred]
    have hi := hL i (by omega)
    have hin : vp_in (nI i) 128 := vp_in_nI (by omega) (by omega)
    have hcl : (nI i).toNatClampNeg = i := nI_clamp (by omega)
    refine br_f (nI_pos (by omega)) ⟨hin, ?_⟩
    rw [hcl, hi.1, hi.2.2.2.1, hi.2.2.2.2]
    refine pk_eq (T i) t (fun e => ⟨hin, br_c (fun a => ⟨hin, br_c (fun d => ?_) (fun d => ?_)⟩) (fun a => ?_)⟩) (fun e => ?_)
    · rw [gs_lst_f (fun y => y.2.2 d)] at h
      exact nm_r (gs_dn i) (k () ⟨by omega, h.2⟩)
    · rw [gs_lst_t ⟨e, a, d⟩] at h
      rw [← h.2] at hp
      exact ⟨hin, hp⟩
    · rw [gs_lst_f (fun y => a y.2.1)] at h
      exact nm_r (gs_dn i) (k () ⟨by omega, h.2⟩)
    · rw [gs_lst_f (fun y => e y.1)] at h
      exact nm_r (gs_dn i) (k () ⟨by omega, h.2⟩)
theorem yp_waitsFor {post : Int32 → Prop} {t u : Nat} (hF : gs_Fc f b R S rd sr) (hf : f ≤ 128) (hb : b ≤ 64) (h1 : 1 ≤ t) (h2 : t ≤ b) (u1 : 1 ≤ u) (u2 : u ≤ b) (ho : gs_op (st t)) (hu : gs_op (st u))
    (p1 : gs_F f R S t u ∧ gs_un (st u) → post 1) (p0 : ¬ (gs_F f R S t u ∧ gs_un (st u)) → post 0) : wpY_waitsFor post (sl, it, nI b, nI n, nI f, nI c, st, lt, li, lk, lv, rd, sr, so, mk) (nI t) (nI u) := by
  unfold wpY_waitsFor
  dsimp only
  refine yo_begun1 h1 h2 hb (br_f (by decide) (yo_begun1 u1 u2 hb (br_f (by decide) (yo_isOpen (by omega) (fun _ => br_f (by decide) (yo_isOpen (by omega) (fun _ => br_f (by decide) ?_) (fun z => absurd hu z))) (fun z => absurd ho z)))))
  refine pk_loop (σ := Unit) (fun m i _ => wY_waitsFor_39 post (nI t) (nI u) sl it (nI b) (nI n) (nI f) (nI c) st lt li lk lv rd sr so mk m (nI i)) (fun i _ => ∀ j, j < i → R j = t → S j = u → ¬ gs_un (st u)) f 0 () (Nat.zero_le f) (fun j h => absurd h (by omega)) ?_ ?_
  · intro m _ hs
    refine pk_le f f (fun _ => p0 ?_) (fun h => absurd h (by omega))
    rintro ⟨⟨j, hj, e1, e2⟩, hun⟩
    exact hs j hj e1 e2 hun
  · intro m i _ hi hs k
    have h := hF i hi
    have iin : vp_in (nI i) 128 := vp_in_nI (by omega) (by omega)
    have icl : (nI i).toNatClampNeg = i := nI_clamp (by omega)
    have skip : (R i = t → S i = u → ¬ gs_un (st u)) → wY_waitsFor_39 post (nI t) (nI u) sl it (nI b) (nI n) (nI f) (nI c) st lt li lk lv rd sr so mk m (nI (i + 1)) := by
      intro hx
      refine k () (fun j g1 g2 g3 => ?_)
      by_cases ej : j = i
      · subst ej
        exact hx g2 g3
      · exact hs j (by omega) g2 g3
    refine pk_le f i (fun h => absurd h (by omega)) (fun _ => ⟨iin, ?_⟩)
    rw [icl, h.1, h.2.1]
    refine pk_eq (R i) t (fun e => ⟨iin, pk_eq (S i) u (fun e' => ?_) (fun e' => nm_r (nI_1 i) (skip (fun _ z => absurd z e')))⟩) (fun e => nm_r (nI_1 i) (skip (fun z => absurd z e)))
    exact yo_isUnf (by omega) (fun y => br_f (by decide) (p1 ⟨⟨i, hi, e, e'⟩, y⟩)) (fun y => br_t rfl (nm_r (nI_1 i) (skip (fun _ _ => y))))
end
