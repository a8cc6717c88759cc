/-! the invariants of a run, without the law -/
def gp_fin (s : Int32) : Prop := s = 3 ∨ s = 4
theorem gp_fin_un {s : Int32} (h : gp_fin s) : ¬ gs_un s := by
  rcases h with h | h <;> rw [h] <;> unfold gs_un <;> decide
theorem gp_fin_5 {s : Int32} (h : gp_fin s) : ¬ s = 5 := by
  rcases h with h | h <;> rw [h] <;> decide
theorem gp_un_5 {s : Int32} (h : gs_un s) : ¬ s = 5 := by
  rcases h with h | h <;> rw [h] <;> decide
def gp_bs (s : Int32) : Prop := s = 1 ∨ s = 2 ∨ s = 3 ∨ s = 4 ∨ s = 5
theorem gp_bs_c {s : Int32} (h : gp_bs s) : gs_un s ∨ gp_fin s ∨ s = 5 := by
  rcases h with h | h | h | h | h
  · exact Or.inl (Or.inl h)
  · exact Or.inl (Or.inr h)
  · exact Or.inr (Or.inl (Or.inl h))
  · exact Or.inr (Or.inl (Or.inr h))
  · exact Or.inr (Or.inr h)
/-- the states -/
def gp_S (b : Nat) (E F : Nat → Nat → Prop) (st : Nat → Int32) : Prop :=
  (∀ t w, F t w → (1 ≤ t ∧ t ≤ b) ∧ (1 ≤ w ∧ w ≤ b) ∧ (¬ st w = 5 → ¬ st t = 5 → E w t)) ∧ (∀ t w, F t w → st w = 5 → st t = 5) ∧ (∀ t w, F t w → gp_fin (st t) → gp_fin (st w)) ∧ (∀ t, 1 ≤ t → t ≤ b → gp_bs (st t))
/-- the settled order -/
def gp_Q (b : Nat) (E : Nat → Nat → Prop) (st so : Nat → Int32) (c : Nat) (q : Nat → Nat) : Prop :=
  c = gs_cnt (fun t => st t = 4) b ∧ (∀ k, k < c → so k = nI (q k) ∧ (1 ≤ q k ∧ q k ≤ b) ∧ st (q k) = 4) ∧ (∀ k k', k < c → k' < c → q k = q k' → k = k') ∧ (∀ t, 1 ≤ t → t ≤ b → st t = 4 → ∃ k, k < c ∧ q k = t) ∧ (∀ k, k < c → ∀ s, E s (q k) → ∃ k', k' < k ∧ q k' = s)
def gp_ap (k a v : Int32) : Int32 := if k = 1 then v else if k = 2 then a else (v + a) - (v + a) / 1000 * 1000
/-- the values -/
def gp_V (n : Nat) (T : Nat → Nat) (X K lv A st : Nat → Int32) (F : Nat → Nat → Prop) : Prop :=
  (∀ j, j < n → ¬ st (T j) = 5 → lv j = gp_ap (K j) (A j) (gs_val 0 lv (gs_lst (gs_Wr T X K st (X j)) j))) ∧ (∀ j, j < n → ¬ st (T j) = 5 → ¬ K j &&& 1 = 0 → ∀ i, gs_lst (gs_Wr T X K st (X j)) j = i + 1 → T i = T j ∨ F (T j) (T i) ∨ gp_fin (st (T i)))
theorem gp_V_mono {n b : Nat} {T : Nat → Nat} {X K lv A st st' lt li lk : Nat → Int32} {F : Nat → Nat → Prop} (hL : gs_Lg n b T X K lt li lk) (h : gp_V n T X K lv A st F) (h5 : ∀ s, 1 ≤ s → s ≤ b → (st' s = 5 ↔ st s = 5)) (hf : ∀ s, 1 ≤ s → s ≤ b → gp_fin (st s) → gp_fin (st' s)) : gp_V n T X K lv A st' F := by
  have e : ∀ j, j ≤ n → ∀ x, gs_lst (gs_Wr T X K st' x) j = gs_lst (gs_Wr T X K st x) j := by
    intro j hj x
    refine gs_lst_c (fun i hi => ?_)
    have q := hL i (by omega)
    unfold gs_Wr
    rw [h5 _ q.2.1 q.2.2.1]
  constructor
  · intro j hj hs
    have q := hL j hj
    rw [e j (by omega)]
    exact h.1 j hj (fun z => hs ((h5 _ q.2.1 q.2.2.1).mpr z))
  · intro j hj hs hk i hi
    have q := hL j hj
    rw [e j (by omega)] at hi
    have q' := hL i (by have := (gs_lst_in hi).1; omega)
    rcases h.2 j hj (fun z => hs ((h5 _ q.2.1 q.2.2.1).mpr z)) hk i hi with z | z | z
    · exact Or.inl z
    · exact Or.inr (Or.inl z)
    · exact Or.inr (Or.inr (hf _ q'.2.1 q'.2.2.1 z))
theorem gp_lst_sub {P Q : Nat → Prop} {m : Nat} (hPQ : ∀ j, j < m → Q j → P j) (h : ∀ i, gs_lst P m = i + 1 → Q i) : gs_lst Q m = gs_lst P m := by
  induction m with
  | zero => rfl
  | succ m ih =>
    by_cases c : P m
    · rw [gs_lst_t c]
      rw [gs_lst_t c] at h
      rw [gs_lst_t (h m rfl)]
    · rw [gs_lst_f c, gs_lst_f (fun z => c (hPQ m (by omega) z))]
      rw [gs_lst_f c] at h
      exact ih (fun j hj => hPQ j (by omega)) h
theorem gp_ap2 (a v v' : Int32) {k : Int32} (hk : k = 1 ∨ k = 2 ∨ k = 3) (h0 : k &&& 1 = 0) : gp_ap k a v = gp_ap k a v' := by
  rcases hk with h | h | h
  · rw [h] at h0
    exact absurd h0 (by decide)
  · unfold gp_ap
    rw [h, if_neg (show ¬ (2 : Int32) = 1 by decide), if_neg (show ¬ (2 : Int32) = 1 by decide), if_pos rfl, if_pos rfl]
  · rw [h] at h0
    exact absurd h0 (by decide)
theorem gp_V_ab {n b : Nat} {T : Nat → Nat} {X K lv A st st' lt li lk : Nat → Int32} {E F : Nat → Nat → Prop} {D : Nat → Prop} (hL : gs_Lg n b T X K lt li lk) (hK : ∀ j, j < n → K j = 1 ∨ K j = 2 ∨ K j = 3) (hS : gp_S b E F st) (h : gp_V n T X K lv A st F)
    (hD : ∀ s, D s → gs_un (st s)) (hc : ∀ u w, F u w → gs_un (st u) → D w → D u) (h5 : ∀ s, st' s = 5 ↔ (st s = 5 ∨ D s)) (hf : ∀ s, ¬ D s → st' s = st s) : gp_V n T X K lv A st' F := by
  have e : ∀ j, j < n → ¬ st' (T j) = 5 → ¬ K j &&& 1 = 0 → gs_lst (gs_Wr T X K st' (X j)) j = gs_lst (gs_Wr T X K st (X j)) j := by
    intro j hj hs hk
    have hs0 : ¬ st (T j) = 5 := fun z => hs ((h5 _).mpr (Or.inl z))
    have hDj : ¬ D (T j) := fun z => hs ((h5 _).mpr (Or.inr z))
    refine gp_lst_sub (fun i _ z => ⟨z.1, fun y => z.2 ((h5 _).mpr (Or.inl y))⟩) (fun i hi => ?_)
    have z := (gs_lst_in hi).2
    refine ⟨z.1, fun y => ?_⟩
    have hd : D (T i) := ((h5 _).mp y).resolve_left z.2
    rcases h.2 j hj hs0 hk i hi with g | g | g
    · rw [g] at hd
      exact hDj hd
    · rcases gp_bs_c (hS.2.2.2 (T j) (hL j hj).2.1 (hL j hj).2.2.1) with a | a | a
      · exact hDj (hc _ _ g a hd)
      · exact gp_fin_un (hS.2.2.1 _ _ g a) (hD _ hd)
      · exact hs0 a
    · exact gp_fin_un g (hD _ hd)
  constructor
  · intro j hj hs
    have hs0 : ¬ st (T j) = 5 := fun z => hs ((h5 _).mpr (Or.inl z))
    by_cases hk : K j &&& 1 = 0
    · rw [h.1 j hj hs0]
      exact gp_ap2 _ _ _ (hK j hj) hk
    · rw [e j hj hs hk]
      exact h.1 j hj hs0
  · intro j hj hs hk i hi
    have hs0 : ¬ st (T j) = 5 := fun z => hs ((h5 _).mpr (Or.inl z))
    rw [e j hj hs hk] at hi
    rcases h.2 j hj hs0 hk i hi with g | g | g
    · exact Or.inl g
    · exact Or.inr (Or.inl g)
    · refine Or.inr (Or.inr ?_)
      rw [hf _ (fun d => gp_fin_un g (hD _ d))]
      exact g
theorem gp_V_app {n b : Nat} {T : Nat → Nat} {X K lv A st lt li lk : Nat → Int32} {E F F' : Nat → Nat → Prop} {t : Nat} {x k a v : Int32} (hL : gs_Lg n b T X K lt li lk) (hS : gp_S b E F st) (h : gp_V n T X K lv A st F)
    (hv : v = gp_ap k a (gs_val 0 lv (gs_lst (gs_Wr T X K st x) n))) (hF : ∀ u w, F u w → F' u w) (hN : ¬ k &&& 1 = 0 → ∀ i, gs_lst (gs_Wr T X K st x) n = i + 1 → T i = t ∨ F' t (T i) ∨ gp_fin (st (T i))) :
    gp_V (n + 1) (gs_apN T n t) (upd X n x) (upd K n k) (upd lv n v) (upd A n a) st F' := by
  have e : ∀ j, j ≤ n → ∀ y, gs_lst (gs_Wr (gs_apN T n t) (upd X n x) (upd K n k) st y) j = gs_lst (gs_Wr T X K st y) j := by
    intro j hj y
    refine gs_lst_c (fun i hi => ?_)
    have ne : i ≠ n := by omega
    unfold gs_Wr
    rw [gs_apN_n ne, pk_un ne, pk_un ne]
  have ev : ∀ j, j ≤ n → ∀ P, gs_val 0 (upd lv n v) (gs_lst P j) = gs_val 0 lv (gs_lst P j) := by
    intro j hj P
    cases q : gs_lst P j with
    | zero => rfl
    | succ i => exact pk_un (by have := (gs_lst_in q).1; omega)
  constructor
  · intro j hj hs
    by_cases ej : j = n
    · subst ej
      rw [pk_us, pk_us, pk_us, pk_us, e j (Nat.le_refl j), ev j (Nat.le_refl j)]
      exact hv
    · rw [pk_un ej, pk_un ej, pk_un ej, pk_un ej, e j (by omega), ev j (by omega)]
      rw [gs_apN_n ej] at hs
      exact h.1 j (by omega) hs
  · intro j hj hs hk i hi
    by_cases ej : j = n
    · subst ej
      rw [pk_us] at hk
      rw [pk_us, e j (Nat.le_refl j)] at hi
      have ne : i ≠ j := by have := (gs_lst_in hi).1; omega
      rw [gs_apN_s, gs_apN_n ne]
      exact hN hk i hi
    · rw [pk_un ej] at hk
      rw [pk_un ej, e j (by omega)] at hi
      have ne : i ≠ n := by have := (gs_lst_in hi).1; omega
      rw [gs_apN_n ej] at hs
      rw [gs_apN_n ej, gs_apN_n ne]
      rcases h.2 j (by omega) hs hk i hi with g | g | g
      · exact Or.inl g
      · exact Or.inr (Or.inl (hF _ _ g))
      · exact Or.inr (Or.inr g)
/-! settling keeps all -/
/-- what a call may do to the states: finished ones stay, nobody gets active -/
def gp_st (b : Nat) (st st' : Nat → Int32) : Prop := ∀ s, 1 ≤ s → s ≤ b → (st s = 4 → st' s = 4) ∧ (st s = 5 → st' s = 5) ∧ (st' s = 1 → st s = 1)
theorem gp_st_r (b : Nat) (st : Nat → Int32) : gp_st b st st := fun _ _ _ => ⟨fun h => h, fun h => h, fun h => h⟩
theorem gp_st_t {b : Nat} {st st' st2 : Nat → Int32} (h : gp_st b st st') (h' : gp_st b st' st2) : gp_st b st st2 :=
  fun s h1 h2 => ⟨fun z => (h' s h1 h2).1 ((h s h1 h2).1 z), fun z => (h' s h1 h2).2.1 ((h s h1 h2).2.1 z), fun z => (h s h1 h2).2.2 ((h' s h1 h2).2.2 z)⟩
theorem gp_set1 {b c r : Nat} {E F : Nat → Nat → Prop} {st so : Nat → Int32} {q : Nat → Nat} (hS : gp_S b E F st) (hQ : gp_Q b E st so c q) (hEb : ∀ s t, E s t → (1 ≤ s ∧ s ≤ b) ∧ ¬ st s = 5) (hG : ∀ t, 1 ≤ t → t ≤ b → ¬ gs_Go F st t)
    (h1 : 1 ≤ r) (h2 : r ≤ b) (hr : gs_Rd E st r) : gp_S b E F (upd st r 4) ∧ gp_Q b E (upd st r 4) (upd so c (nI r)) (c + 1) (gs_apN q c r) ∧ (∀ t, 1 ≤ t → t ≤ b → ¬ gs_Go F (upd st r 4) t) ∧ (∀ s, upd st r 4 s = 5 ↔ st s = 5) ∧ (∀ s, gp_fin (st s) → gp_fin (upd st r 4 s)) ∧ gp_st b st (upd st r 4) := by
  have h3 := hr.1
  have h5 : ∀ s, upd st r 4 s = 5 ↔ st s = 5 := by
    intro s
    by_cases e : s = r
    · rw [e, pk_us, h3]
      decide
    · rw [pk_un e]
  have hf : ∀ s, gp_fin (st s) ↔ gp_fin (upd st r 4 s) := by
    intro s
    by_cases e : s = r
    · rw [e, pk_us, h3]
      unfold gp_fin
      decide
    · rw [pk_un e]
  have hu : ∀ s, gs_un (upd st r 4 s) ↔ gs_un (st s) := by
    intro s
    by_cases e : s = r
    · rw [e, pk_us, h3]
      unfold gs_un
      decide
    · rw [pk_un e]
  refine ⟨⟨?_, ?_, ?_, ?_⟩, ⟨?_, ?_, ?_, ?_, ?_⟩, ?_, h5, fun s => (hf s).mp, ?_⟩
  · intro t w h
    have g := hS.1 t w h
    exact ⟨g.1, g.2.1, fun a d => g.2.2 (fun z => a ((h5 w).mpr z)) (fun z => d ((h5 t).mpr z))⟩
  · exact fun t w h a => (h5 t).mpr (hS.2.1 t w h ((h5 w).mp a))
  · exact fun t w h a => (hf w).mp (hS.2.2.1 t w h ((hf t).mpr a))
  · intro t a d
    by_cases e : t = r
    · rw [e, pk_us]
      exact Or.inr (Or.inr (Or.inr (Or.inl rfl)))
    · rw [pk_un e]
      exact hS.2.2.2 t a d
  · have := gs_cnt_rm (A := fun t => upd st r 4 t = 4) (B := fun t => st t = 4) (s := r) pk_us (by rw [h3]; decide) (fun j hj => by rw [pk_un hj]) h1 h2
    rw [← this, ← hQ.1]
  · intro k hk
    by_cases e : k = c
    · subst e
      rw [pk_us, gs_apN_s, pk_us]
      exact ⟨rfl, ⟨h1, h2⟩, rfl⟩
    · have g := hQ.2.1 k (by omega)
      rw [pk_un e, gs_apN_n e]
      refine ⟨g.1, g.2.1, ?_⟩
      by_cases e' : q k = r
      · rw [e', pk_us]
      · rw [pk_un e']
        exact g.2.2
  · have nr : ∀ k, k < c → q k ≠ r := fun k hk e => by
      have g := (hQ.2.1 k hk).2.2
      rw [e, h3] at g
      exact absurd g (by decide)
    intro k k' hk hk' e
    by_cases a : k = c
    · by_cases d : k' = c
      · omega
      · rw [a, gs_apN_s, gs_apN_n d] at e
        exact absurd e.symm (nr k' (by omega))
    · by_cases d : k' = c
      · rw [d, gs_apN_s, gs_apN_n a] at e
        exact absurd e (nr k (by omega))
      · rw [gs_apN_n a, gs_apN_n d] at e
        exact hQ.2.2.1 k k' (by omega) (by omega) e
  · intro t a d ht
    by_cases e : t = r
    · exact ⟨c, by omega, by rw [gs_apN_s, e]⟩
    · rw [pk_un e] at ht
      obtain ⟨k, hk, e'⟩ := hQ.2.2.2.1 t a d ht
      exact ⟨k, by omega, by rw [gs_apN_n (by omega), e']⟩
  · intro k hk s hs
    by_cases e : k = c
    · subst e
      rw [gs_apN_s] at hs
      have g := hEb s r hs
      have g4 : st s = 4 := by
        have no := hr.2 s hs
        rcases hS.2.2.2 s g.1.1 g.1.2 with z | z | z | z | z
        · exact absurd (Or.inl z) no
        · exact absurd (Or.inr (Or.inl z)) no
        · exact absurd (Or.inr (Or.inr z)) no
        · exact z
        · exact absurd z g.2
      obtain ⟨k', hk', e'⟩ := hQ.2.2.2.1 s g.1.1 g.1.2 g4
      exact ⟨k', hk', by rw [gs_apN_n (by omega), e']⟩
    · rw [gs_apN_n e] at hs
      obtain ⟨k', hk', e'⟩ := hQ.2.2.2.2 k (by omega) s hs
      exact ⟨k', hk', by rw [gs_apN_n (by omega), e']⟩
  · intro t a d hg
    refine hG t a d ⟨?_, fun w hw z => hg.2 w hw ((hu w).mpr z)⟩
    have g := hg.1
    by_cases e : t = r
    · rw [e, pk_us] at g
      exact absurd g (by decide)
    · rw [pk_un e] at g
      exact g
  · intro s _ _
    by_cases e : s = r
    · rw [e, pk_us, h3]
      exact ⟨fun _ => rfl, fun z => absurd z (by decide), fun z => absurd z (by decide)⟩
    · rw [pk_un e]
      exact ⟨fun z => z, fun z => z, fun z => z⟩
theorem gp_setA {b : Nat} (hb : b < 64) {E F : Nat → Nat → Prop} (f : Nat) : ∀ (st so : Nat → Int32) (c : Nat) (q : Nat → Nat), c + f = 64 → gp_S b E F st → gp_Q b E st so c q → (∀ s t, E s t → (1 ≤ s ∧ s ≤ b) ∧ ¬ st s = 5) → (∀ t, 1 ≤ t → t ≤ b → ¬ gs_Go F st t) →
    ∃ q' : Nat → Nat, gp_S b E F (gs_set b E f st so c).1 ∧ gp_Q b E (gs_set b E f st so c).1 (gs_set b E f st so c).2.1 (gs_set b E f st so c).2.2 q' ∧ (∀ t, 1 ≤ t → t ≤ b → ¬ gs_Go F (gs_set b E f st so c).1 t) ∧ (∀ t, 1 ≤ t → t ≤ b → ¬ gs_Rd E (gs_set b E f st so c).1 t) ∧
      (∀ s, (gs_set b E f st so c).1 s = 5 ↔ st s = 5) ∧ (∀ s, gp_fin (st s) → gp_fin ((gs_set b E f st so c).1 s)) ∧ gp_st b st (gs_set b E f st so c).1 ∧ c ≤ (gs_set b E f st so c).2.2 ∧ (∀ k, k < c → q' k = q k) := by
  induction f with
  | zero =>
    intro st so c q hc hS hQ hEb hG
    have := hQ.1
    have := gs_cnt_le (fun t => st t = 4) b
    omega
  | succ f ih =>
    intro st so c q hc hS hQ hEb hG
    rcases gs_nx_or b E st with e | ⟨e1, e2, e3⟩
    · rw [gs_set_0 e]
      refine ⟨q, hS, hQ, hG, ?_, fun s => Iff.rfl, fun s h => h, gp_st_r b st, Nat.le_refl c, fun _ _ => rfl⟩
      intro t h1 h2
      rcases gs_fst_or (gs_Rd E st) b 1 (Nat.le_refl 1) with z | z
      · exact z.2 t h1 (by omega)
      · have : gs_fst (gs_Rd E st) b 1 = 0 := e
        omega
    · have hne : ¬ gs_nx b E st = 0 := by omega
      rw [gs_set_s hne]
      obtain ⟨a1, a2, a3, a4, a5, a6⟩ := gp_set1 hS hQ hEb hG e1 e2 e3
      obtain ⟨q', g1, g2, g3, g4, g5, g6, g7, g8, g9⟩ := ih (upd st (gs_nx b E st) 4) (upd so c (nI (gs_nx b E st))) (c + 1) (gs_apN q c (gs_nx b E st)) (by omega) a1 a2 (fun s t h => ⟨(hEb s t h).1, fun z => (hEb s t h).2 ((a4 s).mp z)⟩) a3
      exact ⟨q', g1, g2, g3, g4, fun s => (g5 s).trans (a4 s), fun s h => g6 s (a5 s h), gp_st_t a6 g7, by omega, fun k hk => (g9 k (by omega)).trans (gs_apN_n (by omega))⟩
