/-! the reference: single transactions, the log, paths -/
theorem gs_vb0 : vp_nar .boolean 0 = 0 := by decide
theorem gs_vb1 : vp_nar .boolean 1 = 1 := by decide
def gs_mk (mk : Nat → Int32) (s : Nat) : Prop := s ≤ 64 ∧ mk s = 1
def gs_01 (mk : Nat → Int32) : Prop := ∀ s, s ≤ 64 → mk s = 0 ∨ mk s = 1
theorem gs_mk_u {mk : Nat → Int32} {q : Nat} (hq : q ≤ 64) (s : Nat) : gs_mk (upd mk q 1) s ↔ gs_mk mk s ∨ s = q := by
  unfold gs_mk
  by_cases e : s = q
  · subst e
    rw [pk_us]
    exact ⟨fun _ => Or.inr rfl, fun _ => ⟨hq, rfl⟩⟩
  · rw [pk_un e]
    exact ⟨Or.inl, fun h => h.resolve_right e⟩
theorem gs_01_u {mk : Nat → Int32} {q : Nat} (h : gs_01 mk) : gs_01 (upd mk q 1) := by
  intro s hs
  by_cases e : s = q
  · rw [e, pk_us]
    exact Or.inr rfl
  · rw [pk_un e]
    exact h s hs
theorem gs_mk_0 {mk : Nat → Int32} {s : Nat} (hs : s ≤ 64) (h : mk s = 0) : ¬ gs_mk mk s := fun z => by
  rw [z.2] at h
  exact absurd h (by decide)
theorem gs_mk_1 {mk : Nat → Int32} {s : Nat} (h01 : gs_01 mk) (hs : s ≤ 64) (h : ¬ mk s = 0) : gs_mk mk s := ⟨hs, (h01 s hs).resolve_left h⟩
/-- within a round: the marks and the flag, D being what is done if nothing was marked yet -/
def gs_Pq (mk0 : Nat → Int32) (L : Nat → Prop) (D : Prop) (s : Int32 × (Nat → Int32)) : Prop :=
  gs_01 s.2 ∧ (∀ x, gs_mk mk0 x → gs_mk s.2 x) ∧ (∀ x, gs_mk s.2 x → L x) ∧ ((s.1 = 1 ∧ ∃ x, gs_mk s.2 x ∧ ¬ gs_mk mk0 x) ∨ (s.1 = 0 ∧ s.2 = mk0 ∧ D))
theorem gs_pq_mark {mk0 : Nat → Int32} {L : Nat → Prop} {D D' : Prop} {s : Int32 × (Nat → Int32)} {q : Nat} (h : gs_Pq mk0 L D s) (hq : q ≤ 64) (h0 : s.2 q = 0) (hL : L q) : gs_Pq mk0 L D' (1, upd s.2 q 1) := by
  refine ⟨gs_01_u h.1, fun x hx => (gs_mk_u hq x).mpr (Or.inl (h.2.1 x hx)), fun x hx => ?_, Or.inl ⟨rfl, q, (gs_mk_u hq q).mpr (Or.inr rfl), fun z => gs_mk_0 hq h0 (h.2.1 q z)⟩⟩
  cases (gs_mk_u hq x).mp hx with
  | inl z => exact h.2.2.1 x z
  | inr z => rw [z]; exact hL
theorem gs_pq_skip {mk0 : Nat → Int32} {L : Nat → Prop} {D D' : Prop} {s : Int32 × (Nat → Int32)} (h : gs_Pq mk0 L D s) (hD : s.2 = mk0 → D → D') : gs_Pq mk0 L D' s :=
  ⟨h.1, h.2.1, h.2.2.1, h.2.2.2.elim Or.inl (fun z => Or.inr ⟨z.1, z.2.1, hD z.2.1 z.2.2⟩)⟩
theorem gs_pq_01 {mk0 : Nat → Int32} {L : Nat → Prop} {D : Prop} {s : Int32 × (Nat → Int32)} (h : gs_Pq mk0 L D s) : s.1 = 0 ∨ s.1 = 1 := h.2.2.2.elim (fun z => Or.inr z.1) (fun z => Or.inl z.1)
theorem gs_pq_mk {mk0 : Nat → Int32} {S : Nat → Prop} {R : Nat → Nat → Prop} {D : Prop} {b r : Nat} {s : Int32 × (Nat → Int32)} (hb : ∀ s, gs_L S R s → 1 ≤ s ∧ s ≤ b) (hr : r ≤ gs_cnt (gs_mk mk0) b) (h : gs_Pq mk0 (gs_L S R) D s)
    (hD : D → (∀ s, S s → gs_mk mk0 s) ∧ (∀ t s, gs_mk mk0 t → R t s → gs_mk mk0 s)) : gs_Mk S R b (r + 1) (gs_mk s.2) (s.1 = 1) := by
  refine gs_mkS hb hr h.2.1 h.2.2.1 (fun e => ?_) (fun e => ?_)
  · cases h.2.2.2 with
    | inl z => exact z.2
    | inr z =>
      rw [z.1] at e
      exact absurd e (by decide)
  · cases h.2.2.2 with
    | inl z => exact absurd z.1 e
    | inr z =>
      rw [z.2.1]
      exact hD z.2.2
section
variable {sl it : Int32} {b n f c : Nat} {st lt li lk lv rd sr so mk : Nat → Int32} {T : Nat → Nat} {X K : Nat → Int32}
theorem yo_isOpen {post : Int32 → Prop} {t : Nat} (ht : t ≤ 64) (h1 : gs_op (st t) → post 1) (h0 : ¬ gs_op (st t) → post 0) : wpY_isOpen post (sl, it, nI b, nI n, nI f, nI c, st, lt, li, lk, lv, rd, sr, so, mk) (nI t) := by
  have hi : vp_in (nI t) 65 := vp_in_nI (by omega) (by omega)
  have hc : (nI t).toNatClampNeg = t := nI_clamp (by omega)
  unfold wpY_isOpen
  dsimp only
  rw [hc]
  exact ⟨hi, br_c (fun a => h1 (Or.inl a)) (fun a => ⟨hi, br_c (fun b => h1 (Or.inr (Or.inl b))) (fun b => ⟨hi, br_c (fun d => h1 (Or.inr (Or.inr d))) (fun d => h0 (fun z => z.elim a (fun z => z.elim b d)))⟩)⟩)⟩
theorem yo_isUnf {post : Int32 → Prop} {t : Nat} (ht : t ≤ 64) (h1 : gs_un (st t) → post 1) (h0 : ¬ gs_un (st t) → post 0) : wpY_unfinished post (sl, it, nI b, nI n, nI f, nI c, st, lt, li, lk, lv, rd, sr, so, mk) (nI t) := by
  have hi : vp_in (nI t) 65 := vp_in_nI (by omega) (by omega)
  have hc : (nI t).toNatClampNeg = t := nI_clamp (by omega)
  unfold wpY_unfinished
  dsimp only
  rw [hc]
  exact ⟨hi, br_c (fun a => h1 (Or.inl a)) (fun a => ⟨hi, br_c (fun b => h1 (Or.inr b)) (fun b => h0 (fun z => z.elim a b))⟩)⟩
theorem yo_begun1 {post : Int32 → Prop} {t : Nat} (h1 : 1 ≤ t) (h2 : t ≤ b) (hb : b ≤ 64) (hp : post 1) : wpY_known post (sl, it, nI b, nI n, nI f, nI c, st, lt, li, lk, lv, rd, sr, so, mk) (nI t) :=
  br_f (fun h => by have := (nI_ltI (b := 1) (by omega) (by omega)).mp h; omega) (br_f (fun h => by have := (nI_ltI (by omega) (by omega)).mp h; omega) hp)
theorem yo_begun0 {post : Int32 → Prop} {t : Int32} (h : t < 1 ∨ (¬ t < 1 ∧ ¬ t ≤ nI b)) (hp : post 0) : wpY_known post (sl, it, nI b, nI n, nI f, nI c, st, lt, li, lk, lv, rd, sr, so, mk) t := by
  cases h with
  | inl h => exact br_t h hp
  | inr h => exact br_f h.1 (br_t (Int32.not_le.mp h.2) hp)
theorem yl_lastWrite {post : Int32 → Prop} {x : Int32} (hL : gs_Lg n b T X K lt li lk) (hn : n ≤ 128) (hb : b ≤ 64) (p0 : gs_lst (gs_Wr T X K st x) n = 0 → post (-1)) (p1 : ∀ i, gs_lst (gs_Wr T X K st x) n = i + 1 → post (nI i)) : wpY_latestWrite post (sl, it, nI b, nI n, nI f, nI c, st, lt, li, lk, lv, rd, sr, so, mk) x := by
  unfold wpY_latestWrite
  dsimp only
  refine nm_e ⟨n + 1, ?_⟩
  refine pk_loopD (σ := Unit) (fun m i _ => wY_latestWrite_7 post x sl it (nI b) (nI n) (nI f) (nI c) st lt li lk lv rd sr so mk m (nI i - 1)) (fun i _ => i ≤ n ∧ gs_lst (gs_Wr T X K st x) i = gs_lst (gs_Wr T X K st x) n) ?_ ?_ n () ⟨Nat.le_refl n, rfl⟩
  · intro m _ h
    exact br_t gs_dn0 (p0 h.2.symm)
  · intro m i _ h k
    rw [nI_pred]
    have hi := hL i (by omega)
    have hin : vp_in (nI i) 128 := vp_in_nI (by omega) (by omega)
    have hcl : (nI i).toNatClampNeg = i := nI_clamp (by omega)
    have hct : (nI (T i)).toNatClampNeg = T i := nI_clamp (by omega)
    refine br_f (nI_pos (by omega)) ⟨hin, ?_⟩
    rw [hcl, hi.1, hi.2.2.2.1, hi.2.2.2.2, hct]
    refine br_c (fun a => ⟨hin, br_c (fun d => ?_) (fun d => ⟨hin, vp_in_nI (by omega) (by omega), br_c (fun z => ?_) (fun z => ?_)⟩)⟩) (fun a => ?_)
    · rw [gs_lst_f (fun y => y.1.2 d)] at h
      exact nm_r (gs_dn i) (k () ⟨by omega, h.2⟩)
    · rw [gs_lst_f (fun y => y.2 z)] at h
      exact nm_r (gs_dn i) (k () ⟨by omega, h.2⟩)
    · rw [gs_lst_t ⟨⟨a, d⟩, z⟩] at h
      exact p1 i h.2.symm
    · rw [gs_lst_f (fun y => a y.1.1)] at h
      exact nm_r (gs_dn i) (k () ⟨by omega, h.2⟩)
theorem yl_edge {post : Int32 → Prop} {i j : Nat} (hL : gs_Lg n b T X K lt li lk) (hn : n ≤ 128) (hb : b ≤ 64) (hi : i < n) (hj : j < n) (p1 : gs_Ed T X K st i j → post 1) (p0 : ¬ gs_Ed T X K st i j → post 0) : wpY_edge post (sl, it, nI b, nI n, nI f, nI c, st, lt, li, lk, lv, rd, sr, so, mk) (nI i) (nI j) := by
  have ii : vp_in (nI i) 128 := vp_in_nI (by omega) (by omega)
  have ij : vp_in (nI j) 128 := vp_in_nI (by omega) (by omega)
  have ci : (nI i).toNatClampNeg = i := nI_clamp (by omega)
  have cj : (nI j).toNatClampNeg = j := nI_clamp (by omega)
  have a := hL i hi
  have d := hL j hj
  have ti : vp_in (nI (T i)) 65 := vp_in_nI (by omega) (by omega)
  have tj : vp_in (nI (T j)) 65 := vp_in_nI (by omega) (by omega)
  have di : (nI (T i)).toNatClampNeg = T i := nI_clamp (by omega)
  have dj : (nI (T j)).toNatClampNeg = T j := nI_clamp (by omega)
  unfold wpY_edge
  dsimp only
  rw [ci, cj, a.1, d.1, di, dj, a.2.2.2.1, d.2.2.2.1, a.2.2.2.2, d.2.2.2.2]
  exact ⟨ii, ij, pk_eq (T i) (T j) (fun e => p0 (fun z => z.1 e)) (fun e1 => ⟨ii, ij, br_c (fun e2 => ⟨ii, ij, br_c (fun e => p0 (fun z => z.2.2.1 e)) (fun e3 => ⟨ii, ti, br_c (fun e => p0 (fun z => z.2.2.2.1 e)) (fun e4 => ⟨ij, tj, br_c (fun e => p0 (fun z => z.2.2.2.2 e)) (fun e5 => p1 ⟨e1, e2, e3, e4, e5⟩)⟩)⟩)⟩) (fun e => p0 (fun z => e z.2.1))⟩)⟩
theorem yl_path {post : Int32 → SY → Prop} {a z : Nat} (hL : gs_Lg n b T X K lt li lk) (hn : n ≤ 128) (hb : b ≤ 64) (ha : a ≤ 64) (hz : z ≤ 64)
    (p1 : gs_Pl (gs_E n T X K st) a z → ∀ mk, post 1 (sl, it, nI b, nI n, nI f, nI c, st, lt, li, lk, lv, rd, sr, so, mk)) (p0 : ¬ gs_Pl (gs_E n T X K st) a z → ∀ mk, post 0 (sl, it, nI b, nI n, nI f, nI c, st, lt, li, lk, lv, rd, sr, so, mk)) : wpY_path post (sl, it, nI b, nI n, nI f, nI c, st, lt, li, lk, lv, rd, sr, so, mk) (nI a) (nI z) := by
  have hB : ∀ s, gs_L (gs_E n T X K st a) (gs_E n T X K st) s → 1 ≤ s ∧ s ≤ b := fun s h => gs_L_i (A := fun s => 1 ≤ s ∧ s ≤ b) (fun c hc => (gs_E_in hL hc).2.1) (fun _ _ _ hr => (gs_E_in hL hr).2.1) h
  have hcz : (nI z).toNatClampNeg = z := nI_clamp (by omega)
  have hiz : vp_in (nI z) 65 := vp_in_nI (by omega) (by omega)
  have fin : ∀ (mk : Nat → Int32) (r : Nat) (ch : Prop), gs_01 mk → gs_Mk (gs_E n T X K st a) (gs_E n T X K st) b r (gs_mk mk) ch → (¬ ch ∨ b < r) →
      vp_in (nI z) 65 ∧ (narrow .boolean (.int (mk (nI z).toNatClampNeg)) = .int (mk (nI z).toNatClampNeg) ∧ (post (mk (nI z).toNatClampNeg) (sl, it, nI b, nI n, nI f, nI c, st, lt, li, lk, lv, rd, sr, so, mk))) := by
    intro mk r ch h01 hM hx
    have hq := gs_mkE hM hx z
    rw [hcz]
    refine ⟨hiz, gs_nb01 (h01 z hz), ?_⟩
    by_cases e : mk z = 0
    · rw [e]
      exact p0 (fun y => gs_mk_0 hz e (hq.mpr y)) mk
    · have m1 := gs_mk_1 h01 hz e
      rw [m1.2]
      exact p1 (hq.mp m1) mk
  unfold wpY_path
  dsimp only
  refine pk_loop (σ := Nat → Int32) (fun m i mk => wY_path_2 post (nI a) (nI z) sl it (nI b) (nI n) (nI f) (nI c) m (nI i) st lt li lk lv rd sr so mk) (fun i mk => ∀ s, s < i → mk s = 0) 65 0 mk (Nat.zero_le 65) (fun s h => absurd h (by omega)) ?_ ?_
  · intro m mk hmk
    refine pk_lt 64 65 (fun _ => ?_) (fun h => absurd h (by omega))
    refine pk_loop (σ := Int32 × (Nat → Int32)) (fun m r s => wY_path_26 post (nI a) (nI z) sl it (nI b) (nI n) (nI f) (nI c) m s.1 (nI r) st lt li lk lv rd sr so s.2)
      (fun r s => (s.1 = 0 ∨ s.1 = 1) ∧ gs_01 s.2 ∧ gs_Mk (gs_E n T X K st a) (gs_E n T X K st) b r (gs_mk s.2) (s.1 = 1)) 65 0 (1, mk) (Nat.zero_le 65) ?_ ?_ ?_
    · exact ⟨Or.inr rfl, fun s hs => Or.inl (hmk s (by omega)), fun s hs => absurd hs (gs_mk_0 hs.1 (hmk s (by have := hs.1; omega))), Or.inr ⟨rfl, Nat.zero_le _⟩⟩
    · rintro m ⟨ch, mk⟩ hs
      dsimp only at hs ⊢
      exact pk_lt 64 65 (fun _ => fin mk 65 _ hs.2.1 hs.2.2 (Or.inr (by omega))) (fun h => absurd h (by omega))
    · rintro m r ⟨ch, mk⟩ hr hs k
      dsimp only at hs k ⊢
      refine pk_lt 64 r (fun h => absurd h (by omega)) (fun _ => br_c (fun e => ?_) (fun e => ?_))
      · exact fin mk r _ hs.2.1 hs.2.2 (Or.inl (fun y => by rw [e] at y; exact absurd y (by decide)))
      · have e1 : ch = 1 := hs.1.resolve_left e
        have hcnt : r ≤ gs_cnt (gs_mk mk) b := (hs.2.2.2.resolve_left (fun y => y.1 e1)).2
        refine pk_loop (σ := Int32 × (Nat → Int32)) (fun q i s => wY_path_42 post (wY_path_26 post (nI a) (nI z) sl it (nI b) (nI n) (nI f) (nI c) m) (nI a) (nI z) (nI r) sl it (nI b) (nI n) (nI f) (nI c) q s.1 (nI i) st lt li lk lv rd sr so s.2)
          (fun i s => gs_Pq mk (gs_L (gs_E n T X K st a) (gs_E n T X K st)) (∀ i' j, i' < i → i' < j → j < n → (T i' = a ∨ gs_mk mk (T i')) → gs_Ed T X K st i' j → gs_mk mk (T j)) s) n 0 (0, mk) (Nat.zero_le n) ?_ ?_ ?_
        · exact ⟨hs.2.1, fun _ h => h, hs.2.2.1, Or.inr ⟨rfl, rfl, fun i' j h => absurd h (by omega)⟩⟩
        · rintro q s' hs'
          refine pk_le n n (fun _ => nm_r (nI_1 r) (k s' ⟨gs_pq_01 hs', hs'.1, gs_pq_mk hB hcnt hs' (fun hD => ⟨?_, ?_⟩)⟩)) (fun h => absurd h (by omega))
          · rintro s ⟨i, j, hij, hj, h1, rfl, he⟩
            exact hD i j (by omega) hij hj (Or.inl h1) he
          · rintro t s ht ⟨i, j, hij, hj, h1, rfl, he⟩
            exact hD i j (by omega) hij hj (Or.inr (by rw [h1]; exact ht)) he
        · rintro q i s' hi hs' k'
          have hLi := hL i hi
          have iin : vp_in (nI i) 128 := vp_in_nI (by omega) (by omega)
          have icl : (nI i).toNatClampNeg = i := nI_clamp (by omega)
          have tin : vp_in (nI (T i)) 65 := vp_in_nI (by omega) (by omega)
          have tcl : (nI (T i)).toNatClampNeg = T i := nI_clamp (by omega)
          have inner : (T i = a ∨ gs_mk s'.2 (T i)) → ∃ n83, wY_path_83 post (wY_path_26 post (nI a) (nI z) sl it (nI b) (nI n) (nI f) (nI c) m) (wY_path_42 post (wY_path_26 post (nI a) (nI z) sl it (nI b) (nI n) (nI f) (nI c) m) (nI a) (nI z) (nI r) sl it (nI b) (nI n) (nI f) (nI c) q) (nI a) (nI z) (nI r) (nI i) sl it (nI b) (nI n) (nI f) (nI c) n83 s'.1 (nI (i + 1)) st lt li lk lv rd sr so (s'.2) := by
            intro hT
            have hR : ∀ j, i < j → j < n → gs_Ed T X K st i j → gs_L (gs_E n T X K st a) (gs_E n T X K st) (T j) := by
              intro j hij hj he
              cases hT with
              | inl e => exact gs_L_b ⟨i, j, hij, hj, e, rfl, he⟩
              | inr e => exact gs_L_s (hs'.2.2.1 _ e) ⟨i, j, hij, hj, rfl, rfl, he⟩
            refine pk_loop (σ := Int32 × (Nat → Int32)) (fun p j s => wY_path_83 post (wY_path_26 post (nI a) (nI z) sl it (nI b) (nI n) (nI f) (nI c) m) (wY_path_42 post (wY_path_26 post (nI a) (nI z) sl it (nI b) (nI n) (nI f) (nI c) m) (nI a) (nI z) (nI r) sl it (nI b) (nI n) (nI f) (nI c) q) (nI a) (nI z) (nI r) (nI i) sl it (nI b) (nI n) (nI f) (nI c) p s.1 (nI j) st lt li lk lv rd sr so s.2)
              (fun j s => i < j ∧ gs_Pq mk (gs_L (gs_E n T X K st a) (gs_E n T X K st)) ((∀ i' j, i' < i → i' < j → j < n → (T i' = a ∨ gs_mk mk (T i')) → gs_Ed T X K st i' j → gs_mk mk (T j)) ∧ (∀ j', i < j' → j' < j → gs_Ed T X K st i j' → gs_mk mk (T j'))) s) n (i + 1) s' (by omega) ?_ ?_ ?_
            · exact ⟨by omega, gs_pq_skip hs' (fun _ hD => ⟨hD, fun j' g1 g2 => absurd g2 (by omega)⟩)⟩
            · rintro p s ⟨_, hs⟩
              refine pk_le n n (fun _ => nm_r (nI_1 i) (k' s (gs_pq_skip hs (fun _ hD => ?_)))) (fun h => absurd h (by omega))
              intro i' j g1 g2 g3 g4 g5
              by_cases e : i' = i
              · subst e
                exact hD.2 j g2 g3 g5
              · exact hD.1 i' j (by omega) g2 g3 g4 g5
            · rintro p j s hj ⟨hij, hs⟩ k2
              have hLj := hL j hj
              have jin : vp_in (nI j) 128 := vp_in_nI (by omega) (by omega)
              have jcl : (nI j).toNatClampNeg = j := nI_clamp (by omega)
              have ujn : vp_in (nI (T j)) 65 := vp_in_nI (by omega) (by omega)
              have ucl : (nI (T j)).toNatClampNeg = T j := nI_clamp (by omega)
              refine pk_le n j (fun h => absurd h (by omega)) (fun _ => ⟨jin, ?_⟩)
              rw [jcl, hLj.1, ucl]
              refine ⟨ujn, br_c (fun e0 => ?_) (fun e0 => ?_)⟩
              · refine yl_edge hL hn hb hi hj (fun he => ?_) (fun he => ?_)
                · exact br_f (by decide) ⟨jin, ujn, nm_r (e' := upd s.2 (T j) 1) (by rw [gs_vb1]) (nm_r (nI_1 j) (k2 (1, upd s.2 (T j) 1) ⟨by omega, gs_pq_mark hs (by omega) e0 (hR j hij hj he)⟩))⟩
                · refine br_t rfl (nm_r (nI_1 j) (k2 s ⟨by omega, gs_pq_skip hs (fun _ hD => ⟨hD.1, fun j' g1 g2 g3 => ?_⟩)⟩))
                  by_cases e : j' = j
                  · subst e
                    exact absurd g3 he
                  · exact hD.2 j' g1 (by omega) g3
              · refine nm_r (nI_1 j) (k2 s ⟨by omega, gs_pq_skip hs (fun em hD => ⟨hD.1, fun j' g1 g2 g3 => ?_⟩)⟩)
                by_cases e : j' = j
                · subst e
                  rw [← em]
                  exact gs_mk_1 hs.1 (by omega) e0
                · exact hD.2 j' g1 (by omega) g3
          refine pk_le n i (fun h => absurd h (by omega)) (fun _ => ⟨iin, ?_⟩)
          rw [icl, hLi.1, tcl]
          refine pk_eq (T i) a (fun e => nm_r (nI_1 i) (inner (Or.inl e))) (fun e => ⟨iin, tin, br_c (fun e0 => ?_) (fun e0 => nm_r (nI_1 i) (inner (Or.inr (gs_mk_1 hs'.1 (by omega) e0))))⟩)
          refine nm_r (nI_1 i) (k' s' (gs_pq_skip hs' (fun em hD => ?_)))
          intro i' j g1 g2 g3 g4 g5
          by_cases ei : i' = i
          · subst ei
            cases g4 with
            | inl g4 => exact absurd g4 e
            | inr g4 =>
              rw [← em] at g4
              exact absurd g4 (gs_mk_0 (by omega) e0)
          · exact hD i' j (by omega) g2 g3 g4 g5
  · intro m i mk hi hmk k
    have iin : vp_in (nI i) 65 := vp_in_nI (by omega) (by omega)
    have icl : (nI i).toNatClampNeg = i := nI_clamp (by omega)
    refine pk_lt 64 i (fun h => absurd h (by omega)) (fun _ => ⟨iin, nm_r (e' := upd mk i 0) (by rw [icl, gs_vb0]) (nm_r (nI_1 i) (k _ (fun s hs => ?_)))⟩)
    by_cases e : s = i
    · rw [e, pk_us]
    · rw [pk_un e]
      exact hmk s (by omega)
end
