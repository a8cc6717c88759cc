/-! the reference: aborting, committing, operating -/
section
variable {sl it : Int32} {b n f c : Nat} {st lt li lk lv rd sr so mk : Nat → Int32} {T : Nat → Nat} {X K : Nat → Int32} {R S : Nat → Nat}
theorem yl_abort {post : Int32 → SY → Prop} {t : Nat} (hL : gs_Lg n b T X K lt li lk) (hn : n ≤ 128) (hb : b ≤ 64) (hc : c ≤ 64) (hF : gs_Fc f b R S rd sr) (hf : f ≤ 128) (h1 : 1 ≤ t) (h2 : t ≤ b)
    {D : Nat → Prop} (hD : D = gs_Dm b (gs_F f R S) st t) {E' : Nat → Nat → Prop} (hE' : E' = gs_E n T X K (gs_abs D st b)) {g : (Nat → Int32) × (Nat → Int32) × Nat} (hg : g = gs_set b E' (64 - c) (gs_abs D st b) so c)
    (hp : ∀ mk, post (nI (gs_cnt D b)) (sl, it, nI b, nI n, nI f, nI (g.2.2), g.1, lt, li, lk, lv, rd, sr, g.2.1, mk)) : wpY_abortSet post (sl, it, nI b, nI n, nI f, nI c, st, lt, li, lk, lv, rd, sr, so, mk) (nI t) := by
  have hB := gs_Dm_in (F := gs_F f R S) (st := st) h1 h2
  unfold gs_Dm at hB
  have tin : vp_in (nI t) 65 := vp_in_nI (by omega) (by omega)
  have tcl : (nI t).toNatClampNeg = t := nI_clamp (by omega)
  have fin : ∀ (mk : Nat → Int32) (r : Nat) (ch : Prop), gs_01 mk → gs_Mk (fun s => s = t) (fun w u => (1 ≤ u ∧ u ≤ b) ∧ gs_un (st u) ∧ gs_F f R S u w) b r (gs_mk mk) ch → (¬ ch ∨ b < r) →
      ∃ n132, wY_abortSet_132 post sl it (nI b) (nI n) (nI f) (nI c) n132 0 1 st lt li lk lv rd sr so mk := by
    intro mk r ch h01 hM hx
    have hq : ∀ s, gs_mk mk s ↔ D s := fun s => by rw [hD]; exact gs_mkE hM hx s
    refine pk_loop (σ := Nat × (Nat → Int32)) (fun m i s => wY_abortSet_132 post sl it (nI b) (nI n) (nI f) (nI c) m (nI s.1) (nI (i + 1)) s.2 lt li lk lv rd sr so mk) (fun i s => s.1 = gs_cnt D i ∧ s.2 = gs_abs D st i) b 0 (0, st) (Nat.zero_le b) ⟨rfl, (gs_abs_0 D st).symm⟩ ?_ ?_
    · rintro m ⟨k, s'⟩ ⟨e1, e2⟩
      dsimp only at e1 e2
      subst e1 e2
      refine pk_lt b (b + 1) (fun _ => ?_) (fun h => absurd h (by omega))
      exact yl_settle hL hn hb hc hE' hg (hp mk)
    · rintro m i ⟨k, s'⟩ hi ⟨e1, e2⟩ kk
      dsimp only at e1 e2 kk ⊢
      subst e1 e2
      have icl : (nI (i + 1)).toNatClampNeg = i + 1 := nI_clamp (by omega)
      have iin : vp_in (nI (i + 1)) 65 := vp_in_nI (by omega) (by omega)
      refine pk_lt b (i + 1) (fun h => absurd h (by omega)) (fun _ => ⟨iin, ?_⟩)
      rw [icl]
      refine br_c (fun e => ?_) (fun e => ?_)
      · have hd : ¬ D (i + 1) := fun z => gs_mk_0 (by omega) e ((hq _).mpr z)
        exact nm_r (nI_1 (i + 1)) (kk (gs_cnt D i, gs_abs D st i) ⟨(gs_cnt_f hd).symm, gs_abs_n hd⟩)
      · have hd : D (i + 1) := (hq _).mp (gs_mk_1 h01 (by omega) e)
        exact ⟨iin, nm_r (gs_abs_s hd) (nm_r (nI_1 _) (nm_r (nI_1 (i + 1)) (kk (gs_cnt D i + 1, gs_abs D st (i + 1)) ⟨(gs_cnt_t hd).symm, rfl⟩)))⟩
  unfold wpY_abortSet
  dsimp only
  refine pk_loop (σ := Nat → Int32) (fun m i mk => wY_abortSet_2 post (nI t) sl it (nI b) (nI n) (nI f) (nI c) m (nI i) st lt li lk lv rd sr so mk) (fun i mk => ∀ s, s < i → mk s = 0) 65 0 mk (Nat.zero_le 65) (fun s h => absurd h (by omega)) ?_ ?_
  · intro m mk hmk
    refine pk_lt 64 65 (fun _ => ⟨tin, nm_r (e' := upd mk t 1) (by rw [tcl, gs_vb1]) ?_⟩) (fun h => absurd h (by omega))
    have hm1 : ∀ s, gs_mk (upd mk t 1) s ↔ s = t := by
      intro s
      rw [gs_mk_u (by omega) s]
      exact ⟨fun h => h.resolve_left (fun z => gs_mk_0 z.1 (hmk s (by have := z.1; omega)) z), Or.inr⟩
    refine pk_loop (σ := Int32 × (Nat → Int32)) (fun m r s => wY_abortSet_32 post sl it (nI b) (nI n) (nI f) (nI c) m s.1 (nI r) st lt li lk lv rd sr so s.2)
      (fun r s => (s.1 = 0 ∨ s.1 = 1) ∧ gs_01 s.2 ∧ gs_mk s.2 t ∧ gs_Mk (fun s => s = t) (fun w u => (1 ≤ u ∧ u ≤ b) ∧ gs_un (st u) ∧ gs_F f R S u w) b r (gs_mk s.2) (s.1 = 1)) 65 0 (1, upd mk t 1) (Nat.zero_le 65) ?_ ?_ ?_
    · exact ⟨Or.inr rfl, gs_01_u (fun s hs => Or.inl (hmk s (by omega))), (hm1 t).mpr rfl, fun s hs => gs_L_b ((hm1 s).mp hs), Or.inr ⟨rfl, Nat.zero_le _⟩⟩
    · rintro m ⟨ch, mk⟩ hs
      dsimp only at hs ⊢
      exact pk_lt 64 65 (fun _ => fin mk 65 _ hs.2.1 hs.2.2.2 (Or.inr (by omega))) (fun h => absurd h (by omega))
    · rintro m r ⟨ch, mk⟩ hr hs k
      dsimp only at hs k ⊢
      refine pk_lt 64 r (fun h => absurd h (by omega)) (fun _ => br_c (fun e => ?_) (fun e => ?_))
      · exact fin mk r _ hs.2.1 hs.2.2.2 (Or.inl (fun y => by rw [e] at y; exact absurd y (by decide)))
      · have e1 : ch = 1 := hs.1.resolve_left e
        have hcnt : r ≤ gs_cnt (gs_mk mk) b := (hs.2.2.2.2.resolve_left (fun y => y.1 e1)).2
        refine pk_loop (σ := Int32 × (Nat → Int32)) (fun q i s => wY_abortSet_47 post (wY_abortSet_32 post sl it (nI b) (nI n) (nI f) (nI c) m) (nI r) sl it (nI b) (nI n) (nI f) (nI c) q s.1 (nI i) st lt li lk lv rd sr so s.2)
          (fun i s => gs_Pq mk (gs_L (fun s => s = t) (fun w u => (1 ≤ u ∧ u ≤ b) ∧ gs_un (st u) ∧ gs_F f R S u w)) (∀ j, j < i → gs_mk mk (S j) → gs_un (st (R j)) → gs_mk mk (R j)) s) f 0 (0, mk) (Nat.zero_le f) ?_ ?_ ?_
        · exact ⟨hs.2.1, fun _ h => h, hs.2.2.2.1, Or.inr ⟨rfl, rfl, fun j h => absurd h (by omega)⟩⟩
        · rintro q s' hs'
          refine pk_le f f (fun _ => nm_r (nI_1 r) (k s' ⟨gs_pq_01 hs', hs'.1, hs'.2.1 t hs.2.2.1, gs_pq_mk hB hcnt hs' (fun hD => ⟨?_, ?_⟩)⟩)) (fun h => absurd h (by omega))
          · rintro s rfl
            exact hs.2.2.1
          · rintro w u hw ⟨_, hu, j, hj, rfl, rfl⟩
            exact hD j hj hw hu
        · rintro q i s' hi hs' k'
          have h := hF i hi
          have iin : vp_in (nI i) 128 := vp_in_nI (by omega) (by omega)
          have icl : (nI i).toNatClampNeg = i := nI_clamp (by omega)
          have rin : vp_in (nI (R i)) 65 := vp_in_nI (by omega) (by omega)
          have rcl : (nI (R i)).toNatClampNeg = R i := nI_clamp (by omega)
          have sin : vp_in (nI (S i)) 65 := vp_in_nI (by omega) (by omega)
          have scl : (nI (S i)).toNatClampNeg = S i := nI_clamp (by omega)
          have skip : (s'.2 = mk → gs_mk mk (S i) → gs_un (st (R i)) → gs_mk mk (R i)) → wY_abortSet_47 post (wY_abortSet_32 post sl it (nI b) (nI n) (nI f) (nI c) m) (nI r) sl it (nI b) (nI n) (nI f) (nI c) q s'.1 (nI (i + 1)) st lt li lk lv rd sr so (s'.2) := by
            intro hx
            refine k' s' (gs_pq_skip hs' (fun em hD j g1 g2 g3 => ?_))
            by_cases ej : j = i
            · subst ej
              exact hx em g2 g3
            · exact hD j (by omega) g2 g3
          refine pk_le f i (fun h => absurd h (by omega)) (fun _ => ⟨iin, ?_⟩)
          rw [icl, h.1, h.2.1, rcl, scl]
          refine ⟨sin, br_c (fun e0 => ?_) (fun e0 => ⟨iin, rin, br_c (fun e2 => ⟨iin, ?_⟩) (fun e2 => ?_)⟩)⟩
          · exact nm_r (nI_1 i) (skip (fun em g => absurd (em ▸ g) (gs_mk_0 (by omega) e0)))
          · refine yo_isUnf (by omega) (fun hu => ?_) (fun hu => br_t rfl (nm_r (nI_1 i) (skip (fun _ _ g => absurd g hu))))
            refine br_f (by decide) ⟨iin, rin, nm_r (e' := upd s'.2 (R i) 1) (by rw [gs_vb1]) (nm_r (nI_1 i) (k' (1, upd s'.2 (R i) 1) (gs_pq_mark hs' (by omega) e2 ?_)))⟩
            exact gs_L_s (hs'.2.2.1 _ (gs_mk_1 hs'.1 (by omega) e0)) ⟨h.2.2.1, hu, i, hi, rfl, rfl⟩
          · exact nm_r (nI_1 i) (skip (fun em _ _ => em ▸ gs_mk_1 hs'.1 (by omega) e2))
  · intro m i mk hi hmk k
    have iin : vp_in (nI i) 65 := vp_in_nI (by omega) (by omega)
    have icl : (nI i).toNatClampNeg = i := nI_clamp (by omega)
    refine pk_lt 64 i (fun h => absurd h (by omega)) (fun _ => ⟨iin, nm_r (e' := upd mk i 0) (by rw [icl, gs_vb0]) (nm_r (nI_1 i) (k _ (fun s hs => ?_)))⟩)
    by_cases e : s = i
    · rw [e, pk_us]
    · rw [pk_un e]
      exact hmk s (by omega)
theorem yl_commit {post : Int32 → SY → Prop} {t : Nat} (hL : gs_Lg n b T X K lt li lk) (hn : n ≤ 128) (hb : b ≤ 64) (hc : c ≤ 64) (hF : gs_Fc f b R S rd sr) (hf : f ≤ 128) (h1 : 1 ≤ t) (h2 : t ≤ b)
    (pN : ¬ st t = 1 → post (-2) (sl, it, nI b, nI n, nI f, nI c, st, lt, li, lk, lv, rd, sr, so, mk)) (pW : st t = 1 → (∃ w, gs_F f R S t w ∧ gs_un (st w)) → post 0 (sl, it, nI b, nI n, nI f, nI c, upd st t 2, lt, li, lk, lv, rd, sr, so, mk))
    (pC : st t = 1 → (∀ w, gs_F f R S t w → ¬ gs_un (st w)) → ∀ k s, gs_Wy b (gs_F f R S) (upd st t 3) k s → (∀ t, 1 ≤ t → t ≤ b → ¬ gs_Go (gs_F f R S) s t) →
      post (nI (1 + k)) (sl, it, nI b, nI n, nI f, nI ((gs_set b (gs_E n T X K s) (64 - c) s so c).2.2), (gs_set b (gs_E n T X K s) (64 - c) s so c).1, lt, li, lk, lv, rd, sr, (gs_set b (gs_E n T X K s) (64 - c) s so c).2.1, mk)) : wpY_commit post (sl, it, nI b, nI n, nI f, nI c, st, lt, li, lk, lv, rd, sr, so, mk) (nI t) := by
  have hcl : (nI t).toNatClampNeg = t := nI_clamp (by omega)
  have hin : vp_in (nI t) 65 := vp_in_nI (by omega) (by omega)
  unfold wpY_commit
  dsimp only
  refine yo_begun1 h1 h2 hb (br_f (by decide) ⟨hin, ?_⟩)
  rw [hcl]
  refine br_c (fun e => ?_) pN
  refine yl_awaits hF hf hb (by omega) (fun z => ?_) (fun z => ?_)
  · exact br_f (by decide) ⟨hin, nm_e (pW e z)⟩
  · refine br_t rfl ⟨hin, nm_e ?_⟩
    have fin : ∀ k s, gs_Wy b (gs_F f R S) (upd st t 3) k s → (∀ t, 1 ≤ t → t ≤ b → ¬ gs_Go (gs_F f R S) s t) → wY_commit_124 post (nI (1 + k)) sl it (nI b) (nI n) (nI f) (nI c) s lt li lk lv rd sr so mk := by
      intro k s hk hs
      unfold wY_commit_124
      exact yl_settle hL hn hb hc rfl rfl (pC e z k s hk hs)
    refine pk_loop (σ := Nat × Int32 × (Nat → Int32)) (fun m r s => wY_commit_54 post sl it (nI b) (nI n) (nI f) (nI c) m (nI (1 + s.1)) s.2.1 (nI r) s.2.2 lt li lk lv rd sr so mk)
      (fun r s => gs_Wy b (gs_F f R S) (upd st t 3) s.1 s.2.2 ∧ ((s.2.1 = 0 ∧ ∀ t, 1 ≤ t → t ≤ b → ¬ gs_Go (gs_F f R S) s.2.2 t) ∨ (s.2.1 = 1 ∧ r ≤ s.1))) 65 0 (0, 1, upd st t 3) (Nat.zero_le 65) ⟨gs_wy0 _ _ _, Or.inr ⟨rfl, Nat.zero_le _⟩⟩ ?_ ?_
    · rintro m ⟨k, ch, s⟩ ⟨hk, hs⟩
      dsimp only at hk hs ⊢
      refine pk_lt 64 65 (fun _ => ?_) (fun h => absurd h (by omega))
      rcases hs with hs | hs
      · exact fin k s hk hs.2
      · have := hk.2
        have := gs_cnt_le (fun j => upd st t 3 j = 2) b
        omega
    · rintro m r ⟨k, ch, s⟩ hr ⟨hk, hs⟩ kk
      dsimp only at hk hs kk ⊢
      refine pk_lt 64 r (fun h => absurd h (by omega)) (fun _ => br_c (fun e0 => ?_) (fun e0 => ?_))
      · rcases hs with hs | hs
        · exact fin k s hk hs.2
        · rw [hs.1] at e0
          exact absurd e0 (by decide)
      · have hs := hs.resolve_left (fun z => e0 z.1)
        refine pk_loop (σ := Nat × Int32 × (Nat → Int32)) (fun q i s => wY_commit_70 post (wY_commit_54 post sl it (nI b) (nI n) (nI f) (nI c) m) (nI r) sl it (nI b) (nI n) (nI f) (nI c) q (nI (1 + s.1)) s.2.1 (nI (i + 1)) s.2.2 lt li lk lv rd sr so mk)
          (fun i s' => gs_Wy b (gs_F f R S) (upd st t 3) s'.1 s'.2.2 ∧ ((s'.2.1 = 0 ∧ s'.2.2 = s ∧ ∀ t, 1 ≤ t → t ≤ i → ¬ gs_Go (gs_F f R S) s t) ∨ (s'.2.1 = 1 ∧ k + 1 ≤ s'.1)) ∧ k ≤ s'.1) b 0 (k, 0, s) (Nat.zero_le b) ?_ ?_ ?_
        · exact ⟨hk, Or.inl ⟨rfl, rfl, fun t g1 g2 => absurd g2 (by omega)⟩, Nat.le_refl k⟩
        · rintro q ⟨k', ch', s'⟩ ⟨g1, g2, g3⟩
          dsimp only at g1 g2 g3 ⊢
          refine pk_lt b (b + 1) (fun _ => nm_r (nI_1 r) (kk (k', ch', s') ⟨g1, ?_⟩)) (fun h => absurd h (by omega))
          rcases g2 with ⟨a1, a2, a3⟩ | ⟨a1, a2⟩
          · exact Or.inl ⟨a1, by show ∀ t, 1 ≤ t → t ≤ b → ¬ gs_Go (gs_F f R S) s' t; rw [a2]; exact a3⟩
          · exact Or.inr ⟨a1, by show r + 1 ≤ k'; omega⟩
        · rintro q i ⟨k', ch', s'⟩ hi ⟨g1, g2, g3⟩ k2
          dsimp only at g1 g2 g3 k2 ⊢
          have icl : (nI (i + 1)).toNatClampNeg = i + 1 := nI_clamp (by omega)
          have iin : vp_in (nI (i + 1)) 65 := vp_in_nI (by omega) (by omega)
          have skip : ¬ gs_Go (gs_F f R S) s' (i + 1) → wY_commit_70 post (wY_commit_54 post sl it (nI b) (nI n) (nI f) (nI c) m) (nI r) sl it (nI b) (nI n) (nI f) (nI c) q (nI (1 + k')) ch' (nI (i + 1 + 1)) (s') lt li lk lv rd sr so mk := by
            intro hg
            refine k2 (k', ch', s') ⟨g1, ?_, g3⟩
            rcases g2 with ⟨a1, a2, a3⟩ | g2
            · refine Or.inl ⟨a1, a2, fun t u1 u2 => ?_⟩
              by_cases et : t = i + 1
              · rw [et, ← a2]
                exact hg
              · exact a3 t u1 (by omega)
            · exact Or.inr g2
          refine pk_lt b (i + 1) (fun h => absurd h (by omega)) (fun _ => ⟨iin, ?_⟩)
          rw [icl]
          refine br_c (fun e2 => ?_) (fun e2 => nm_r (nI_1 (i + 1)) (skip (fun y => e2 y.1)))
          refine yl_awaits hF hf hb (by omega) (fun y => ?_) (fun y => ?_)
          · obtain ⟨w, w1, w2⟩ := y
            exact br_f (by decide) (nm_r (nI_1 (i + 1)) (skip (fun y => y.2 w w1 w2)))
          · exact br_t rfl ⟨iin, nm_e (nm_r (nI_1 (1 + k')) (nm_r (nI_1 (i + 1)) (k2 (k' + 1, 1, upd s' (i + 1) 3) ⟨gs_wyS g1 (by omega) (by omega) ⟨e2, y⟩, Or.inr ⟨rfl, by show k + 1 ≤ k' + 1; omega⟩, by show k ≤ k' + 1; omega⟩)))⟩
theorem yl_begin {post : Int32 → SY → Prop} (hb : b < 64) (p1 : nI (gs_cnt (fun t => gs_op (st t)) b) < sl → post (nI (b + 1)) (sl, it, nI (b + 1), nI n, nI f, nI c, upd st (b + 1) 1, lt, li, lk, lv, rd, sr, so, mk)) (p0 : ¬ nI (gs_cnt (fun t => gs_op (st t)) b) < sl → post (-7) (sl, it, nI b, nI n, nI f, nI c, st, lt, li, lk, lv, rd, sr, so, mk)) : wpY_begin post (sl, it, nI b, nI n, nI f, nI c, st, lt, li, lk, lv, rd, sr, so, mk) := by
  unfold wpY_begin
  dsimp only
  refine pk_lt b 64 (fun _ => ?_) (fun h => absurd h (by omega))
  refine pk_loop (σ := Nat) (fun m i s => wY_begin_16 post sl it (nI b) (nI n) (nI f) (nI c) st lt li lk lv rd sr so mk m (nI s) (nI (i + 1))) (fun i s => s = gs_cnt (fun t => gs_op (st t)) i) b 0 0 (Nat.zero_le b) rfl ?_ ?_
  · intro m s hs
    subst hs
    refine pk_lt b (b + 1) (fun _ => br_c (fun e => ?_) p0) (fun h => absurd h (by omega))
    exact nm_r (nI_1 b) ⟨vp_in_nI (by omega) (by omega), nm_r (e' := upd st (b + 1) 1) (by rw [nI_clamp (show b + 1 < 2 ^ 31 by omega)]) (p1 e)⟩
  · intro m i s hi hs k
    refine pk_lt b (i + 1) (fun h => absurd h (by omega)) (fun _ => ?_)
    refine yo_isOpen (by omega) (fun h => ?_) (fun h => ?_)
    · exact br_f (by decide) (nm_r (nI_1 s) (nm_r (nI_1 (i + 1)) (k (s + 1) (by rw [hs, gs_cnt_t h]))))
    · exact br_t rfl (nm_r (nI_1 (i + 1)) (k s (by rw [hs, gs_cnt_f h])))
end
