/-! the replay -/
theorem gp_lst_eq {P : Nat → Prop} {m i : Nat} (hi : i < m) (h : P i) (hm : ∀ j, i < j → j < m → ¬ P j) : gs_lst P m = i + 1 := by
  induction m with
  | zero => omega
  | succ m ih =>
    by_cases e : i = m
    · subst e
      exact gs_lst_t h
    · rw [gs_lst_f (hm m (by omega) (by omega))]
      exact ih (by omega) (fun j h1 h2 => hm j h1 (by omega))
theorem gp_lst_mx {P : Nat → Prop} {m i : Nat} (h : gs_lst P m = i + 1) (j : Nat) (h1 : i < j) (h2 : j < m) : ¬ P j := by
  induction m with
  | zero => omega
  | succ m ih =>
    by_cases c : P m
    · rw [gs_lst_t c] at h
      omega
    · rw [gs_lst_f c] at h
      by_cases e : j = m
      · rw [e]
        exact c
      · exact ih h (by omega)
theorem gp_lst_no {P : Nat → Prop} {m : Nat} (h : gs_lst P m = 0) (j : Nat) (h2 : j < m) : ¬ P j := by
  induction m with
  | zero => omega
  | succ m ih =>
    by_cases c : P m
    · rw [gs_lst_t c] at h
      omega
    · rw [gs_lst_f c] at h
      by_cases e : j = m
      · rw [e]
        exact c
      · exact ih h (by omega)
theorem gp_lst_n0 {P : Nat → Prop} {m : Nat} (h : ∀ j, j < m → ¬ P j) : gs_lst P m = 0 := by
  cases e : gs_lst P m with
  | zero => rfl
  | succ i => exact absurd (gs_lst_in e).2 (h i (gs_lst_in e).1)
/-- entry i writes x and is of the first k settled -/
def gp_Wk (q : Nat → Nat) (k : Nat) (T : Nat → Nat) (X K : Nat → Int32) (x : Int32) (i : Nat) : Prop := (X i = x ∧ ¬ K i &&& 2 = 0) ∧ ∃ m, m < k ∧ q m = T i
noncomputable def gp_sv (q : Nat → Nat) (k n : Nat) (T : Nat → Nat) (X K lv : Nat → Int32) (x : Int32) : Int32 := gs_val 0 lv (gs_lst (gp_Wk q k T X K x) n)
section
variable {b n c : Nat} {st so : Nat → Int32} {pr rf : Nat → Int64} {T : Nat → Nat} {X K lt li lk lv A : Nat → Int32} {F : Nat → Nat → Prop} {q : Nat → Nat}
theorem gp_kw2 {a k : Int32} (h : ¬ a &&& 2 = 0) : ¬ (k ||| a) &&& 2 = 0 := by
  rw [Int32.or_comm]
  exact gp_kw h
theorem gp_back (h : gp_J b n c st so pr rf T X K lt li lk lv A F q) {k k' : Nat} (hk : k < c) (hk' : k' ≤ k) (he : gs_E n T X K st (q k) (q k')) : False := by
  obtain ⟨h0, hL, hK, hv, hE, hRF, hA, hS, hQ, hG, hR, hV⟩ := h
  obtain ⟨m, hm, e⟩ := hQ.2.2.2.2 k' (by omega) _ he
  have := hQ.2.2.1 m k (by omega) hk e
  omega
theorem gp_edge (h : gp_J b n c st so pr rf T X K lt li lk lv A F q) {i j : Nat} (hij : i < j) (hj : j < n) (hT : T i ≠ T j) (hx : X i = X j) (hw : ¬ K i &&& 2 = 0 ∨ ¬ K j &&& 2 = 0) (hi5 : ¬ st (T i) = 5) (hj5 : ¬ st (T j) = 5) : gs_E n T X K st (T i) (T j) :=
  ⟨i, j, hij, hj, rfl, rfl, hT, hx, hw.elim (fun z => gp_kw z) (fun z => gp_kw2 z), hi5, hj5⟩
theorem gp_q4 (h : gp_J b n c st so pr rf T X K lt li lk lv A F q) {k : Nat} (hk : k < c) : ¬ st (q k) = 5 := by
  rw [(h.2.2.2.2.2.2.2.2.1.2.1 k hk).2.2]
  decide
theorem gp_pred (h : gp_J b n c st so pr rf T X K lt li lk lv A F q) {k : Nat} (hk : k < c) {s : Nat} (he : gs_E n T X K st s (q k)) : ∃ m, m < k ∧ q m = s := h.2.2.2.2.2.2.2.2.1.2.2.2.2 k hk s he
theorem gp_R1 (h : gp_J b n c st so pr rf T X K lt li lk lv A F q) {k j : Nat} (hk : k < c) (hj : j < n) (ht : T j = q k) :
    gs_val 0 lv (gs_lst (gs_Wr T X K st (X j)) j) = gs_val (gp_sv q k n T X K lv (X j)) lv (gs_lst (gs_Wt T X K (q k) (X j)) j) := by
  have q4 : ∀ m, m < c → ¬ st (q m) = 5 := fun m hm => gp_q4 h hm
  have j5 : ¬ st (T j) = 5 := by rw [ht]; exact q4 k hk
  cases e : gs_lst (gs_Wt T X K (q k) (X j)) j with
  | succ i =>
    have g := gs_lst_in e
    have gt : T i = q k := g.2.1
    have e2 : gs_lst (gs_Wr T X K st (X j)) j = i + 1 := by
      refine gp_lst_eq g.1 ⟨g.2.2, by rw [gt]; exact q4 k hk⟩ (fun i' h1 h2 z => ?_)
      by_cases et : T i' = q k
      · exact gp_lst_mx e i' h1 h2 ⟨et, z.1⟩
      · have a := gp_edge h h2 hj (by rw [ht]; exact et) z.1.1 (Or.inl z.1.2) z.2 j5
        rw [ht] at a
        obtain ⟨m, hm, em⟩ := gp_pred h hk a
        have d := gp_edge h h1 (by omega) (by rw [gt]; exact fun y => et y.symm) (g.2.2.1.trans z.1.1.symm) (Or.inl g.2.2.2) (by rw [gt]; exact q4 k hk) z.2
        rw [gt, ← em] at d
        exact gp_back h hk (by omega) d
    rw [e2]
    rfl
  | zero =>
    have no := gp_lst_no e
    have e2 : gs_lst (gs_Wr T X K st (X j)) j = gs_lst (gp_Wk q k T X K (X j)) n := by
      have mem : ∀ i', i' < j → gs_Wr T X K st (X j) i' → gp_Wk q k T X K (X j) i' := by
        intro i' hi' z
        have et : T i' ≠ q k := fun et => no i' hi' ⟨et, z.1⟩
        have a := gp_edge h hi' hj (by rw [ht]; exact et) z.1.1 (Or.inl z.1.2) z.2 j5
        rw [ht] at a
        exact ⟨z.1, gp_pred h hk a⟩
      cases e3 : gs_lst (gp_Wk q k T X K (X j)) n with
      | zero => exact gp_lst_n0 (fun i' hi' z => gp_lst_no e3 i' (by omega) (mem i' hi' z))
      | succ i =>
        have g := gs_lst_in e3
        obtain ⟨m, hm, em⟩ := g.2.2
        have ne : T i ≠ q k := fun z => by
          have := h.2.2.2.2.2.2.2.2.1.2.2.1 m k (by omega) hk (em.trans z)
          omega
        have i5 : ¬ st (T i) = 5 := by rw [← em]; exact q4 m (by omega)
        have hlt : i < j := by
          apply Classical.byContradiction
          intro hn
          have hne : i ≠ j := fun z => ne (by rw [z]; exact ht)
          have d := gp_edge h (show j < i by omega) g.1 (by rw [ht]; exact fun y => ne y.symm) g.2.1.1.symm (Or.inr g.2.1.2) j5 i5
          rw [ht, ← em] at d
          exact gp_back h hk (by omega) d
        exact gp_lst_eq hlt ⟨g.2.1, i5⟩ (fun i' h1 h2 z => gp_lst_mx e3 i' h1 (by omega) (mem i' h2 z))
    rw [e2]
    rfl
theorem gp_R2 (h : gp_J b n c st so pr rf T X K lt li lk lv A F q) {k : Nat} (hk : k < c) (x : Int32) : gp_sv q (k + 1) n T X K lv x = gs_val (gp_sv q k n T X K lv x) lv (gs_lst (gs_Wt T X K (q k) x) n) := by
  have q4 : ∀ m, m < c → ¬ st (q m) = 5 := fun m hm => gp_q4 h hm
  cases e : gs_lst (gs_Wt T X K (q k) x) n with
  | succ i =>
    have g := gs_lst_in e
    have gt : T i = q k := g.2.1
    have e2 : gs_lst (gp_Wk q (k + 1) T X K x) n = i + 1 := by
      refine gp_lst_eq g.1 ⟨g.2.2, k, by omega, gt.symm⟩ (fun i' h1 h2 z => ?_)
      obtain ⟨m, hm, em⟩ := z.2
      by_cases et : T i' = q k
      · exact gp_lst_mx e i' h1 h2 ⟨et, z.1⟩
      · have hm' : m < k := by
          apply Classical.byContradiction
          intro hn
          have : m = k := by omega
          rw [this] at em
          exact et em.symm
        have d := gp_edge h h1 h2 (by rw [gt]; exact fun y => et y.symm) (g.2.2.1.trans z.1.1.symm) (Or.inl g.2.2.2) (by rw [gt]; exact q4 k hk) (by rw [← em]; exact q4 m (by omega))
        rw [gt, ← em] at d
        exact gp_back h hk (by omega) d
    unfold gp_sv
    rw [e2]
    rfl
  | zero =>
    have no := gp_lst_no e
    have e2 : gs_lst (gp_Wk q (k + 1) T X K x) n = gs_lst (gp_Wk q k T X K x) n := by
      refine gs_lst_c (fun i hi => ⟨fun z => ?_, fun z => ⟨z.1, z.2.elim fun m hm => ⟨m, by omega, hm.2⟩⟩⟩)
      obtain ⟨m, hm, em⟩ := z.2
      refine ⟨z.1, m, ?_, em⟩
      apply Classical.byContradiction
      intro hn
      have : m = k := by omega
      rw [this] at em
      exact no i hi ⟨em.symm, z.1⟩
    unfold gp_sv
    rw [e2]
    rfl
theorem gp_R3 (h : gp_J b n c st so pr rf T X K lt li lk lv A F q) (x : Int32) : gs_val 0 lv (gs_lst (gs_Ws T X K st x) n) = gp_sv q c n T X K lv x := by
  unfold gp_sv
  obtain ⟨h0, hL, hK, hv, hE, hRF, hA, hS, hQ, hG, hR, hV⟩ := h
  rw [gs_lst_c (fun i hi => ?_)]
  have l := hL i hi
  constructor
  · intro z
    exact ⟨z.1, hQ.2.2.2.1 (T i) l.2.1 l.2.2.1 z.2⟩
  · rintro ⟨z, m, hm, em⟩
    refine ⟨z, ?_⟩
    rw [← em]
    exact (hQ.2.1 m hm).2.2
theorem gp_sv_in (hv : ∀ j, j < n → ∃ v, v < 1000 ∧ lv j = nI v) (k : Nat) (x : Int32) : ∃ y, y < 1000 ∧ gp_sv q k n T X K lv x = nI y := gp_cv hv
theorem gp_sv_q {q' : Nat → Nat} {k : Nat} (h : ∀ m, m < k → q' m = q m) (x : Int32) : gp_sv q' k n T X K lv x = gp_sv q k n T X K lv x := by
  unfold gp_sv
  rw [gs_lst_c (fun i _ => ?_)]
  unfold gp_Wk
  exact ⟨fun z => ⟨z.1, z.2.elim fun m hm => ⟨m, hm.1, by rw [← h m hm.1]; exact hm.2⟩⟩, fun z => ⟨z.1, z.2.elim fun m hm => ⟨m, hm.1, by rw [h m hm.1]; exact hm.2⟩⟩⟩
theorem gp_sv_a {k t : Nat} {x z v : Int32} {kk : Int32} (ht : ∀ m, m < k → q m ≠ t) : gp_sv q k (n + 1) (gs_apN T n t) (upd X n z) (upd K n kk) (upd lv n v) x = gp_sv q k n T X K lv x := by
  unfold gp_sv
  rw [gs_lst_f (fun y => y.2.elim fun m hm => ht m hm.1 (hm.2.trans gs_apN_s))]
  have e : gs_lst (gp_Wk q k (gs_apN T n t) (upd X n z) (upd K n kk) x) n = gs_lst (gp_Wk q k T X K x) n := by
    refine gs_lst_c (fun i hi => ?_)
    have ne : i ≠ n := by omega
    unfold gp_Wk
    rw [gs_apN_n ne, pk_un ne, pk_un ne]
  rw [e]
  cases e2 : gs_lst (gp_Wk q k T X K x) n with
  | zero => rfl
  | succ i => exact pk_un (by have := (gs_lst_in e2).1; omega)
theorem gp_sv_0 (x : Int32) : gp_sv q 0 n T X K lv x = 0 := by
  unfold gp_sv
  rw [gp_lst_n0 (fun j _ z => z.2.elim fun m hm => absurd hm.1 (by omega))]
  rfl
end
