/-! the reference: settling, aborting, waiting -/
section
variable {sl it : Int32} {b n f c : Nat} {st lt li lk lv rd sr so mk : Nat → Int32} {T : Nat → Nat} {X K : Nat → Int32}
theorem yl_openPred {post : Int32 → Prop} {t : Nat} (hL : gs_Lg n b T X K lt li lk) (hn : n ≤ 128) (hb : b ≤ 64) (ht : t ≤ 64)
    (p1 : (∃ s, gs_E n T X K st s t ∧ gs_op (st s)) → post 1) (p0 : (∀ s, gs_E n T X K st s t → ¬ gs_op (st s)) → post 0) : wpY_openPredecessor post (sl, it, nI b, nI n, nI f, nI c, st, lt, li, lk, lv, rd, sr, so, mk) (nI t) := by
  unfold wpY_openPredecessor
  dsimp only
  refine pk_loop (σ := Unit) (fun m j _ => wY_openPredecessor_2 post (nI t) sl it (nI b) (nI n) (nI f) (nI c) st lt li lk lv rd sr so mk m (nI j)) (fun j _ => ∀ i' j', i' < j' → j' < j → T j' = t → gs_Ed T X K st i' j' → ¬ gs_op (st (T i'))) n 0 () (Nat.zero_le n) (fun i' j' _ h => absurd h (by omega)) ?_ ?_
  · intro m _ hs
    refine pk_le n n (fun _ => p0 ?_) (fun h => absurd h (by omega))
    rintro s ⟨i, j, hij, hj, rfl, h2, he⟩
    exact hs i j hij hj h2 he
  · intro m j _ hj hs k
    have hLj := hL j hj
    have jin : vp_in (nI j) 128 := vp_in_nI (by omega) (by omega)
    have jcl : (nI j).toNatClampNeg = j := nI_clamp (by omega)
    refine pk_le n j (fun h => absurd h (by omega)) (fun _ => ⟨jin, ?_⟩)
    rw [jcl, hLj.1]
    refine pk_eq (T j) t (fun e => ?_) (fun e => ?_)
    · refine pk_loop (σ := Unit) (fun q i _ => wY_openPredecessor_22 post (wY_openPredecessor_2 post (nI t) sl it (nI b) (nI n) (nI f) (nI c) st lt li lk lv rd sr so mk m) (nI t) (nI j) sl it (nI b) (nI n) (nI f) (nI c) st lt li lk lv rd sr so mk q (nI i)) (fun i _ => ∀ i', i' < i → gs_Ed T X K st i' j → ¬ gs_op (st (T i'))) j 0 () (Nat.zero_le j) (fun i' h => absurd h (by omega)) ?_ ?_
      · intro q _ hi
        refine pk_le j j (fun _ => nm_r (nI_1 j) (k () ?_)) (fun h => absurd h (by omega))
        intro i' j' g1 g2 g3 g4
        by_cases ej : j' = j
        · subst ej
          exact hi i' g1 g4
        · exact hs i' j' g1 (by omega) g3 g4
      · intro q i _ hij hi k'
        have hLi := hL i (by omega)
        have iin : vp_in (nI i) 128 := vp_in_nI (by omega) (by omega)
        have icl : (nI i).toNatClampNeg = i := nI_clamp (by omega)
        refine pk_le j i (fun h => absurd h (by omega)) (fun _ => ?_)
        refine yl_edge hL hn hb (by omega) hj (fun he => ?_) (fun he => ?_)
        · refine br_f (by decide) ⟨iin, ?_⟩
          rw [icl, hLi.1]
          refine yo_isOpen (by omega) (fun ho => br_f (by decide) (p1 ⟨T i, ⟨i, j, hij, hj, rfl, e, he⟩, ho⟩)) (fun ho => br_t rfl (nm_r (nI_1 i) (k' () ?_)))
          intro i' g1 g2
          by_cases ei : i' = i
          · subst ei
            exact ho
          · exact hi i' (by omega) g2
        · refine br_t rfl (nm_r (nI_1 i) (k' () ?_))
          intro i' g1 g2
          by_cases ei : i' = i
          · subst ei
            exact absurd g2 he
          · exact hi i' (by omega) g2
    · refine nm_r (nI_1 j) (k () ?_)
      intro i' j' g1 g2 g3 g4
      by_cases ej : j' = j
      · subst ej
        exact absurd g3 e
      · exact hs i' j' g1 (by omega) g3 g4
theorem yl_awaits {post : Int32 → Prop} {t : Nat} {R S : Nat → Nat} (hF : gs_Fc f b R S rd sr) (hf : f ≤ 128) (hb : b ≤ 64) (ht : t ≤ 64)
    (p1 : (∃ w, gs_F f R S t w ∧ gs_un (st w)) → post 1) (p0 : (∀ w, gs_F f R S t w → ¬ gs_un (st w)) → post 0) : wpY_awaits post (sl, it, nI b, nI n, nI f, nI c, st, lt, li, lk, lv, rd, sr, so, mk) (nI t) := by
  unfold wpY_awaits
  dsimp only
  refine pk_loop (σ := Unit) (fun m i _ => wY_awaits_2 post (nI t) sl it (nI b) (nI n) (nI f) (nI c) st lt li lk lv rd sr so mk m (nI i)) (fun i _ => ∀ j, j < i → R j = t → ¬ gs_un (st (S j))) f 0 () (Nat.zero_le f) (fun j h => absurd h (by omega)) ?_ ?_
  · intro m _ hs
    refine pk_le f f (fun _ => p0 ?_) (fun h => absurd h (by omega))
    rintro w ⟨j, hj, h1, rfl⟩
    exact hs j hj h1
  · intro m i _ hi hs k
    have h := hF i hi
    have iin : vp_in (nI i) 128 := vp_in_nI (by omega) (by omega)
    have icl : (nI i).toNatClampNeg = i := nI_clamp (by omega)
    refine pk_le f i (fun h => absurd h (by omega)) (fun _ => ⟨iin, ?_⟩)
    rw [icl, h.1, h.2.1]
    refine pk_eq (R i) t (fun e => ⟨iin, ?_⟩) (fun e => ?_)
    · refine yo_isUnf (by omega) (fun hu => br_f (by decide) (p1 ⟨S i, ⟨i, hi, e, rfl⟩, hu⟩)) (fun hu => br_t rfl (nm_r (nI_1 i) (k () ?_)))
      intro j g1 g2
      by_cases ej : j = i
      · subst ej
        exact hu
      · exact hs j (by omega) g2
    · refine nm_r (nI_1 i) (k () ?_)
      intro j g1 g2
      by_cases ej : j = i
      · subst ej
        exact absurd g2 e
      · exact hs j (by omega) g2
end
section
variable {sl it : Int32} {b n f : Nat} {lt li lk lv rd sr mk : Nat → Int32} {T : Nat → Nat} {X K : Nat → Int32}
theorem yl_settle {post : SY → Prop} {c : Nat} {st so : Nat → Int32} (hL : gs_Lg n b T X K lt li lk) (hn : n ≤ 128) (hb : b ≤ 64) (hc : c ≤ 64) {E : Nat → Nat → Prop} (hE : E = gs_E n T X K st) {g : (Nat → Int32) × (Nat → Int32) × Nat} (hg : g = gs_set b E (64 - c) st so c)
    (hp : post (sl, it, nI b, nI n, nI f, nI (g.2.2), g.1, lt, li, lk, lv, rd, sr, g.2.1, mk)) : wpY_settle post (sl, it, nI b, nI n, nI f, nI c, st, lt, li, lk, lv, rd, sr, so, mk) := by
  unfold wpY_settle
  dsimp only
  refine pk_loop (σ := Nat × Nat × (Nat → Int32) × (Nat → Int32)) (fun m r s => wY_settle_4 post sl it (nI b) (nI n) (nI f) m (nI s.1) (nI r) (nI (s.2.1)) s.2.2.1 lt li lk lv rd sr s.2.2.2 mk)
    (fun r s => s.1 ≤ 64 ∧ s.2.1 ≤ 64 ∧ (r ≤ s.2.1 ∨ s.2.1 = 64 ∨ s.1 = 0) ∧ g = gs_set b E (64 - s.2.1) s.2.2.1 s.2.2.2 s.2.1 ∧ (s.1 = 0 → gs_nx b E s.2.2.1 = 0) ∧ (∀ x, s.2.2.1 x = 5 ↔ st x = 5)) 65 0 (1, c, st, so) (Nat.zero_le 65) ?_ ?_ ?_
  · exact ⟨show 1 ≤ 64 by decide, hc, Or.inl (Nat.zero_le _), hg, fun h => absurd (show 1 = 0 from h) (by decide), fun _ => Iff.rfl⟩
  · rintro m ⟨fd, c', st', so'⟩ ⟨h1, h2, h3, h4, h5, h6⟩
    dsimp only at h1 h2 h3 h4 h5 h6 ⊢
    have hq : g = (st', so', c') := by
      by_cases e : fd = 0
      · rw [gs_set_0 (h5 e)] at h4
        exact h4
      · have e : c' = 64 := by omega
        subst e
        exact h4
    rw [hq] at hp
    exact pk_lt 64 65 (fun _ => hp) (fun h => absurd h (by omega))
  · rintro m r ⟨fd, c', st', so'⟩ hr ⟨h1, h2, h3, h4, h5, h6⟩ k
    dsimp only at h1 h2 h3 h4 h5 h6 k ⊢
    refine pk_lt 64 r (fun h => absurd h (by omega)) (fun _ => ?_)
    refine pk_le fd 0 (fun h => ?_) (fun h => ?_)
    · rw [gs_set_0 (h5 (by omega))] at h4
      rw [h4] at hp
      exact hp
    · have hEE : ∀ s t, gs_E n T X K st' s t ↔ E s t := fun s t => by rw [hE]; exact gs_E_c h6 s t
      have fin : ∀ d, d = gs_nx b E st' → wY_settle_56 post (wY_settle_4 post sl it (nI b) (nI n) (nI f) m) (nI d) (nI r) sl it (nI b) (nI n) (nI f) (nI (c')) (st') lt li lk lv rd sr (so') mk := by
        rintro d rfl
        unfold wY_settle_56
        rcases gs_nx_or b E st' with e | ⟨e1, e2, e3⟩
        · rw [e]
          exact pk_le 0 0 (fun _ => nm_r (nI_1 r) (k (0, c', st', so') ⟨show 0 ≤ 64 by decide, h2, Or.inr (Or.inr rfl), h4, fun _ => e, h6⟩)) (fun h => absurd h (by omega))
        · refine pk_le (gs_nx b E st') 0 (fun h => absurd h (by omega)) (fun _ => ?_)
          refine pk_le 64 c' (fun h => ?_) (fun h => ?_)
          · exact nm_r (nI_1 r) (k (gs_nx b E st', c', st', so') ⟨by show gs_nx b E st' ≤ 64; omega, h2, Or.inr (Or.inl (show c' = 64 by omega)), h4, fun z => z, h6⟩)
          · have hcl : (nI (gs_nx b E st')).toNatClampNeg = gs_nx b E st' := nI_clamp (by omega)
            have hcc : (nI c').toNatClampNeg = c' := nI_clamp (by omega)
            have hne : ¬ gs_nx b E st' = 0 := by omega
            rw [show 64 - c' = (64 - (c' + 1)) + 1 by omega, gs_set_s hne] at h4
            refine ⟨vp_in_nI (by omega) (by omega), nm_r (e' := upd st' (gs_nx b E st') 4) (by rw [hcl]) ⟨vp_in_nI (by omega) (by omega), nm_r (e' := upd so' c' (nI (gs_nx b E st'))) (by rw [hcc]) (nm_r (nI_1 c') (nm_r (nI_1 r) ?_))⟩⟩
            refine k (gs_nx b E st', c' + 1, upd st' (gs_nx b E st') 4, upd so' c' (nI (gs_nx b E st'))) ⟨by show gs_nx b E st' ≤ 64; omega, by show c' + 1 ≤ 64; omega, by show r + 1 ≤ c' + 1 ∨ c' + 1 = 64 ∨ gs_nx b E st' = 0; omega, h4, fun z => absurd z hne, fun x => ?_⟩
            refine Iff.trans ?_ (h6 x)
            show upd st' (gs_nx b E st') 4 x = 5 ↔ st' x = 5
            by_cases e : x = gs_nx b E st'
            · rw [e, pk_us, e3.1]
              decide
            · rw [pk_un e]
      refine pk_loop (σ := Nat) (fun q i d => wY_settle_18 post (wY_settle_4 post sl it (nI b) (nI n) (nI f) m) (nI r) sl it (nI b) (nI n) (nI f) (nI (c')) (st') lt li lk lv rd sr (so') mk q (nI d) (nI (i + 1))) (fun i d => d ≤ 64 ∧ ((d = 0 ∧ gs_fst (gs_Rd E st') (b - i) (i + 1) = gs_nx b E st') ∨ (d ≠ 0 ∧ d = gs_nx b E st'))) b 0 0 (Nat.zero_le b) ⟨by decide, Or.inl ⟨rfl, rfl⟩⟩ ?_ ?_
      · rintro q d ⟨_, hd⟩
        refine pk_lt b (b + 1) (fun _ => fin d ?_) (fun h => absurd h (by omega))
        rcases hd with ⟨d0, hd⟩ | ⟨_, hd⟩
        · rw [Nat.sub_self] at hd
          rw [d0]
          exact hd
        · exact hd
      · rintro q i d hi ⟨hd64, hd⟩ k'
        refine pk_lt b (i + 1) (fun h => absurd h (by omega)) (fun _ => ?_)
        rcases hd with ⟨d0, hd⟩ | ⟨d0, hd⟩
        · subst d0
          have iin : vp_in (nI (i + 1)) 65 := vp_in_nI (by omega) (by omega)
          have icl : (nI (i + 1)).toNatClampNeg = i + 1 := nI_clamp (by omega)
          rw [show b - i = (b - (i + 1)) + 1 by omega] at hd
          refine br_t rfl ⟨iin, ?_⟩
          rw [icl]
          have skip : ¬ gs_Rd E st' (i + 1) → wY_settle_18 post (wY_settle_4 post sl it (nI b) (nI n) (nI f) m) (nI r) sl it (nI b) (nI n) (nI f) (nI (c')) (st') lt li lk lv rd sr (so') mk q (nI 0) (nI (i + 1 + 1)) := by
            intro hr
            rw [gs_fst_f hr] at hd
            exact k' 0 ⟨by decide, Or.inl ⟨rfl, hd⟩⟩
          refine br_c (fun h3' => ?_) (fun h3' => nm_r (nI_1 (i + 1)) (skip (fun z => h3' z.1)))
          refine yl_openPred hL hn hb (by omega) (fun z => ?_) (fun z => ?_)
          · obtain ⟨s, s1, s2⟩ := z
            exact br_f (by decide) (nm_r (nI_1 (i + 1)) (skip (fun y => y.2 s ((hEE s _).mp s1) s2)))
          · have hr : gs_Rd E st' (i + 1) := ⟨h3', fun s hs => z s ((hEE s _).mpr hs)⟩
            rw [gs_fst_t hr] at hd
            exact br_t rfl (nm_r (nI_1 (i + 1)) (k' (i + 1) ⟨by omega, Or.inr ⟨by omega, hd⟩⟩))
        · exact br_f (nI_ne0 (by omega) (by omega)) (fin d hd)
end
