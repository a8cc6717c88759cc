/-! the log: T j its transaction, X j its item, K j its kind; st the states -/
def gs_Ed (T : Nat → Nat) (X K st : Nat → Int32) (i j : Nat) : Prop := T i ≠ T j ∧ X i = X j ∧ ¬ ((K i ||| K j) &&& 2 = 0) ∧ ¬ st (T i) = 5 ∧ ¬ st (T j) = 5
def gs_E (n : Nat) (T : Nat → Nat) (X K st : Nat → Int32) (s t : Nat) : Prop := ∃ i j, i < j ∧ j < n ∧ T i = s ∧ T j = t ∧ gs_Ed T X K st i j
def gs_Cf (n : Nat) (T : Nat → Nat) (X K st : Nat → Int32) (t : Nat) (x k : Int32) (s : Nat) : Prop := ∃ i, i < n ∧ T i = s ∧ T i ≠ t ∧ X i = x ∧ ¬ ((K i ||| k) &&& 2 = 0) ∧ ¬ st (T i) = 5
def gs_Lg (n b : Nat) (T : Nat → Nat) (X K : Nat → Int32) (lt li lk : Nat → Int32) : Prop := ∀ j, j < n → lt j = nI (T j) ∧ 1 ≤ T j ∧ T j ≤ b ∧ li j = X j ∧ lk j = K j
def gs_apN (T : Nat → Nat) (n t : Nat) : Nat → Nat := fun j => if j = n then t else T j
theorem gs_apN_s {T : Nat → Nat} {n t : Nat} : gs_apN T n t n = t := if_pos rfl
theorem gs_apN_n {T : Nat → Nat} {n t j : Nat} (h : j ≠ n) : gs_apN T n t j = T j := if_neg h
theorem gs_E_app {n : Nat} {T : Nat → Nat} {X K st : Nat → Int32} {t : Nat} {x k : Int32} (ht : ¬ st t = 5) (s u : Nat) :
    gs_E (n + 1) (gs_apN T n t) (upd X n x) (upd K n k) st s u ↔ gs_E n T X K st s u ∨ (u = t ∧ gs_Cf n T X K st t x k s) := by
  constructor
  · rintro ⟨i, j, hij, hj, rfl, rfl, he⟩
    have hi : i ≠ n := by omega
    unfold gs_Ed at he
    by_cases e : j = n
    · subst e
      rw [gs_apN_s, gs_apN_n hi, pk_us, pk_us, pk_un hi, pk_un hi] at he
      rw [gs_apN_s, gs_apN_n hi]
      exact Or.inr ⟨rfl, i, hij, rfl, he.1, he.2.1, he.2.2.1, he.2.2.2.1⟩
    · rw [gs_apN_n e, gs_apN_n hi, pk_un e, pk_un e, pk_un hi, pk_un hi] at he
      rw [gs_apN_n e, gs_apN_n hi]
      exact Or.inl ⟨i, j, hij, by omega, rfl, rfl, he⟩
  · rintro (⟨i, j, hij, hj, rfl, rfl, he⟩ | ⟨rfl, i, hi, rfl, h1, h2, h3, h4⟩)
    · have hi : i ≠ n := by omega
      have hj' : j ≠ n := by omega
      refine ⟨i, j, hij, by omega, gs_apN_n hi, gs_apN_n hj', ?_⟩
      unfold gs_Ed
      rw [gs_apN_n hj', gs_apN_n hi, pk_un hj', pk_un hj', pk_un hi, pk_un hi]
      exact he
    · have hi' : i ≠ n := by omega
      refine ⟨i, n, hi, by omega, gs_apN_n hi', gs_apN_s, ?_⟩
      unfold gs_Ed
      rw [gs_apN_s, gs_apN_n hi', pk_us, pk_us, pk_un hi', pk_un hi']
      exact ⟨h1, h2, h3, h4, ht⟩
theorem gs_E_c {n : Nat} {T : Nat → Nat} {X K st st' : Nat → Int32} (h : ∀ s, st s = 5 ↔ st' s = 5) (s t : Nat) : gs_E n T X K st s t ↔ gs_E n T X K st' s t := by
  unfold gs_E gs_Ed
  constructor
  · rintro ⟨i, j, a, b, c, d, e1, e2, e3, e4, e5⟩
    exact ⟨i, j, a, b, c, d, e1, e2, e3, fun z => e4 ((h _).mpr z), fun z => e5 ((h _).mpr z)⟩
  · rintro ⟨i, j, a, b, c, d, e1, e2, e3, e4, e5⟩
    exact ⟨i, j, a, b, c, d, e1, e2, e3, fun z => e4 ((h _).mp z), fun z => e5 ((h _).mp z)⟩
theorem gs_E_ab {n : Nat} {T : Nat → Nat} {X K st st' : Nat → Int32} {D : Nat → Prop} (h : ∀ s, st' s = 5 ↔ (st s = 5 ∨ D s)) (s t : Nat) : gs_E n T X K st' s t ↔ gs_E n T X K st s t ∧ ¬ D s ∧ ¬ D t := by
  unfold gs_E gs_Ed
  constructor
  · rintro ⟨i, j, a, b, rfl, rfl, e1, e2, e3, e4, e5⟩
    exact ⟨⟨i, j, a, b, rfl, rfl, e1, e2, e3, fun z => e4 ((h _).mpr (Or.inl z)), fun z => e5 ((h _).mpr (Or.inl z))⟩, fun z => e4 ((h _).mpr (Or.inr z)), fun z => e5 ((h _).mpr (Or.inr z))⟩
  · rintro ⟨⟨i, j, a, b, rfl, rfl, e1, e2, e3, e4, e5⟩, d1, d2⟩
    exact ⟨i, j, a, b, rfl, rfl, e1, e2, e3, fun z => ((h _).mp z).elim e4 d1, fun z => ((h _).mp z).elim e5 d2⟩
theorem gs_E_in {n b : Nat} {T : Nat → Nat} {X K st lt li lk : Nat → Int32} (hL : gs_Lg n b T X K lt li lk) {s t : Nat} (h : gs_E n T X K st s t) : (1 ≤ s ∧ s ≤ b) ∧ (1 ≤ t ∧ t ≤ b) ∧ ¬ st s = 5 ∧ ¬ st t = 5 := by
  obtain ⟨i, j, hij, hj, rfl, rfl, he⟩ := h
  have a := hL i (by omega)
  have c := hL j hj
  exact ⟨⟨a.2.1, a.2.2.1⟩, ⟨c.2.1, c.2.2.1⟩, he.2.2.2.1, he.2.2.2.2⟩
theorem gs_Cf_in {n b : Nat} {T : Nat → Nat} {X K st lt li lk : Nat → Int32} (hL : gs_Lg n b T X K lt li lk) {t : Nat} {x k : Int32} {s : Nat} (h : gs_Cf n T X K st t x k s) : 1 ≤ s ∧ s ≤ b := by
  obtain ⟨i, hi, rfl, _⟩ := h
  have a := hL i hi
  exact ⟨a.2.1, a.2.2.1⟩
/-! first of a kind -/
noncomputable def gs_fst (P : Nat → Prop) : Nat → Nat → Nat
  | 0, _ => 0
  | f + 1, i => @ite Nat (P i) (Classical.propDecidable _) i (gs_fst P f (i + 1))
theorem gs_fst_t {P : Nat → Prop} {f i : Nat} (h : P i) : gs_fst P (f + 1) i = i := by rw [gs_fst, if_pos h]
theorem gs_fst_f {P : Nat → Prop} {f i : Nat} (h : ¬ P i) : gs_fst P (f + 1) i = gs_fst P f (i + 1) := by rw [gs_fst, if_neg h]
theorem gs_fst_or (P : Nat → Prop) (f : Nat) : ∀ i, 1 ≤ i → (gs_fst P f i = 0 ∧ ∀ j, i ≤ j → j < i + f → ¬ P j) ∨ (i ≤ gs_fst P f i ∧ gs_fst P f i < i + f ∧ P (gs_fst P f i)) := by
  induction f with
  | zero => exact fun i _ => Or.inl ⟨rfl, fun j h1 h2 => absurd h2 (by omega)⟩
  | succ f ih =>
    intro i hi
    by_cases h : P i
    · rw [gs_fst_t h]
      exact Or.inr ⟨Nat.le_refl i, by omega, h⟩
    · rw [gs_fst_f h]
      cases ih (i + 1) (by omega) with
      | inl c =>
        refine Or.inl ⟨c.1, fun j h1 h2 => ?_⟩
        by_cases e : j = i
        · rw [e]; exact h
        · exact c.2 j (by omega) (by omega)
      | inr c => exact Or.inr ⟨by omega, by omega, c.2.2⟩
theorem gs_fst_c {P Q : Nat → Prop} (f : Nat) : ∀ i, (∀ j, i ≤ j → j < i + f → (P j ↔ Q j)) → gs_fst P f i = gs_fst Q f i := by
  induction f with
  | zero => exact fun _ _ => rfl
  | succ f ih =>
    intro i h
    have hi := h i (by omega) (by omega)
    by_cases c : P i
    · rw [gs_fst_t c, gs_fst_t (hi.mp c)]
    · rw [gs_fst_f c, gs_fst_f (fun q => c (hi.mpr q))]
      exact ih (i + 1) (fun j h1 h2 => h j (by omega) (by omega))
/-! states -/
def gs_un (s : Int32) : Prop := s = 1 ∨ s = 2
def gs_op (s : Int32) : Prop := s = 1 ∨ s = 2 ∨ s = 3
/-! settling: Rd st t, t is committed and has no open predecessor -/
def gs_Rd (E : Nat → Nat → Prop) (st : Nat → Int32) (t : Nat) : Prop := st t = 3 ∧ ∀ s, E s t → ¬ gs_op (st s)
noncomputable def gs_nx (b : Nat) (E : Nat → Nat → Prop) (st : Nat → Int32) : Nat := gs_fst (gs_Rd E st) b 1
noncomputable def gs_set (b : Nat) (E : Nat → Nat → Prop) : Nat → (Nat → Int32) → (Nat → Int32) → Nat → (Nat → Int32) × (Nat → Int32) × Nat
  | 0, st, so, c => (st, so, c)
  | f + 1, st, so, c => if gs_nx b E st = 0 then (st, so, c) else gs_set b E f (upd st (gs_nx b E st) 4) (upd so c (nI (gs_nx b E st))) (c + 1)
theorem gs_set_0 {b : Nat} {E : Nat → Nat → Prop} {f : Nat} {st so : Nat → Int32} {c : Nat} (h : gs_nx b E st = 0) : gs_set b E f st so c = (st, so, c) := by
  cases f with
  | zero => rfl
  | succ f => rw [gs_set, if_pos h]
theorem gs_set_s {b : Nat} {E : Nat → Nat → Prop} {f : Nat} {st so : Nat → Int32} {c : Nat} (h : ¬ gs_nx b E st = 0) :
    gs_set b E (f + 1) st so c = gs_set b E f (upd st (gs_nx b E st) 4) (upd so c (nI (gs_nx b E st))) (c + 1) := by rw [gs_set, if_neg h]
theorem gs_nx_or (b : Nat) (E : Nat → Nat → Prop) (st : Nat → Int32) : gs_nx b E st = 0 ∨ (1 ≤ gs_nx b E st ∧ gs_nx b E st ≤ b ∧ gs_Rd E st (gs_nx b E st)) := by
  cases gs_fst_or (gs_Rd E st) b 1 (Nat.le_refl 1) with
  | inl h => exact Or.inl h.1
  | inr h => exact Or.inr ⟨h.1, by have := h.2.1; unfold gs_nx; omega, h.2.2⟩
/-- settling aborts nothing, and its count stays within 64 -/
theorem gs_set_ab (b : Nat) (E : Nat → Nat → Prop) (f : Nat) : ∀ (st so : Nat → Int32) (c : Nat), (∀ s, (gs_set b E f st so c).1 s = 5 ↔ st s = 5) ∧ (gs_set b E f st so c).2.2 ≤ c + f := by
  induction f with
  | zero => exact fun st so c => ⟨fun s => Iff.rfl, Nat.le_refl c⟩
  | succ f ih =>
    intro st so c
    by_cases h : gs_nx b E st = 0
    · rw [gs_set_0 h]
      exact ⟨fun s => Iff.rfl, by show c ≤ c + (f + 1); omega⟩
    · rw [gs_set_s h]
      have i := ih (upd st (gs_nx b E st) 4) (upd so c (nI (gs_nx b E st))) (c + 1)
      refine ⟨fun s => (i.1 s).trans ?_, by have := i.2; omega⟩
      have r := ((gs_nx_or b E st).resolve_left h).2.2.1
      by_cases e : s = gs_nx b E st
      · rw [e, pk_us, r]
        decide
      · rw [pk_un e]
/-! committing waiters -/
def gs_Go (F : Nat → Nat → Prop) (st : Nat → Int32) (t : Nat) : Prop := st t = 2 ∧ ∀ w, F t w → ¬ gs_un (st w)
def gs_Cm (b : Nat) (F : Nat → Nat → Prop) (st : Nat → Int32) (x : Nat) : Prop :=
  ∀ A : Nat → Prop, (∀ t, 1 ≤ t → t ≤ b → st t = 2 → (∀ w, F t w → gs_un (st w) → A w) → A t) → A x
/-- on the way: st' is st with some of the waiters that may commit committed; c of them -/
def gs_Wy (b : Nat) (F : Nat → Nat → Prop) (st : Nat → Int32) (c : Nat) (st' : Nat → Int32) : Prop :=
  (∀ j, st' j = st j ∨ (st j = 2 ∧ 1 ≤ j ∧ j ≤ b ∧ gs_Cm b F st j ∧ st' j = 3)) ∧ c + gs_cnt (fun j => st' j = 2) b = gs_cnt (fun j => st j = 2) b
theorem gs_wy0 (b : Nat) (F : Nat → Nat → Prop) (st : Nat → Int32) : gs_Wy b F st 0 st := ⟨fun _ => Or.inl rfl, Nat.zero_add _⟩
theorem gs_wyS {b : Nat} {F : Nat → Nat → Prop} {st st' : Nat → Int32} {c t : Nat} (h : gs_Wy b F st c st') (h1 : 1 ≤ t) (h2 : t ≤ b) (hg : gs_Go F st' t) : gs_Wy b F st (c + 1) (upd st' t 3) := by
  have ht : st t = 2 := by
    cases h.1 t with
    | inl e => rw [← e]; exact hg.1
    | inr e => exact e.1
  have hc : gs_Cm b F st t := by
    intro A hA
    refine hA t h1 h2 ht (fun w hw hu => ?_)
    cases h.1 w with
    | inl e => exact absurd (e ▸ hu) (hg.2 w hw)
    | inr e => exact e.2.2.2.1 A hA
  constructor
  · intro j
    by_cases e : j = t
    · rw [e, pk_us]
      exact Or.inr ⟨ht, h1, h2, hc, rfl⟩
    · rw [pk_un e]
      exact h.1 j
  · have r : gs_cnt (fun j => upd st' t 3 j = 2) b + 1 = gs_cnt (fun j => st' j = 2) b := by
      refine gs_cnt_rm (s := t) hg.1 ?_ ?_ h1 h2
      · rw [pk_us]
        decide
      · intro j hj
        rw [pk_un hj]
    have := h.2
    omega
/-- at the end: nobody may commit any more; then the states and the count are fixed -/
theorem gs_wyE {b : Nat} {F : Nat → Nat → Prop} {st p q : Nat → Int32} {c d : Nat} (hp : gs_Wy b F st c p) (hq : gs_Wy b F st d q)
    (ep : ∀ t, 1 ≤ t → t ≤ b → ¬ gs_Go F p t) (eq : ∀ t, 1 ≤ t → t ≤ b → ¬ gs_Go F q t) : p = q ∧ c = d := by
  have all : ∀ (q : Nat → Int32) (d : Nat), gs_Wy b F st d q → (∀ t, 1 ≤ t → t ≤ b → ¬ gs_Go F q t) → ∀ j, gs_Cm b F st j → q j = 3 := by
    intro q d hq eq j hj
    refine hj (fun j => q j = 3) ?_
    intro t h1 h2 ht hw
    cases hq.1 t with
    | inr e => exact e.2.2.2.2
    | inl e =>
      refine absurd ⟨e.trans ht, fun w hF hu => ?_⟩ (eq t h1 h2)
      cases hq.1 w with
      | inl e' =>
        have h3 : q w = 3 := hw w hF (e' ▸ hu)
        rw [h3] at hu
        exact absurd hu (by unfold gs_un; decide)
      | inr e' =>
        rw [e'.2.2.2.2] at hu
        exact absurd hu (by unfold gs_un; decide)
  have e : p = q := by
    funext j
    cases hp.1 j with
    | inr a => rw [a.2.2.2.2, all q d hq eq j a.2.2.2.1]
    | inl a =>
      cases hq.1 j with
      | inl a' => rw [a, a']
      | inr a' => rw [all p c hp ep j a'.2.2.2.1, a'.2.2.2.2]
  subst e
  exact ⟨rfl, by have := hp.2; have := hq.2; omega⟩
theorem gs_wy_ab {b : Nat} {F : Nat → Nat → Prop} {st p : Nat → Int32} {c : Nat} (hp : gs_Wy b F st c p) (s : Nat) : p s = 5 ↔ st s = 5 := by
  cases hp.1 s with
  | inl e => rw [e]
  | inr e => rw [e.1, e.2.2.2.2]; decide
/-! aborting: the members of D among 1 .. u get state 5 -/
noncomputable def gs_abs (D : Nat → Prop) (st : Nat → Int32) (u : Nat) : Nat → Int32 := fun j => @ite Int32 (1 ≤ j ∧ j ≤ u ∧ D j) (Classical.propDecidable _) 5 (st j)
theorem gs_abs_t {D : Nat → Prop} {st : Nat → Int32} {u j : Nat} (h : 1 ≤ j ∧ j ≤ u ∧ D j) : gs_abs D st u j = 5 := by
  unfold gs_abs
  rw [if_pos h]
theorem gs_abs_f {D : Nat → Prop} {st : Nat → Int32} {u j : Nat} (h : ¬ (1 ≤ j ∧ j ≤ u ∧ D j)) : gs_abs D st u j = st j := by
  unfold gs_abs
  rw [if_neg h]
theorem gs_abs_0 (D : Nat → Prop) (st : Nat → Int32) : gs_abs D st 0 = st := funext fun j => gs_abs_f (fun h => by omega)
theorem gs_abs_s {D : Nat → Prop} {st : Nat → Int32} {u : Nat} (h : D (u + 1)) : upd (gs_abs D st u) (u + 1) 5 = gs_abs D st (u + 1) := by
  funext j
  by_cases e : j = u + 1
  · rw [e, pk_us, gs_abs_t ⟨by omega, by omega, h⟩]
  · rw [pk_un e]
    by_cases c : 1 ≤ j ∧ j ≤ u ∧ D j
    · rw [gs_abs_t c, gs_abs_t ⟨c.1, by omega, c.2.2⟩]
    · rw [gs_abs_f c, gs_abs_f (fun z => c ⟨z.1, by omega, z.2.2⟩)]
theorem gs_abs_n {D : Nat → Prop} {st : Nat → Int32} {u : Nat} (h : ¬ D (u + 1)) : gs_abs D st u = gs_abs D st (u + 1) := by
  funext j
  by_cases c : 1 ≤ j ∧ j ≤ u ∧ D j
  · rw [gs_abs_t c, gs_abs_t ⟨c.1, by omega, c.2.2⟩]
  · rw [gs_abs_f c, gs_abs_f (fun z => ?_)]
    by_cases e : j = u + 1
    · exact h (e ▸ z.2.2)
    · exact c ⟨z.1, by omega, z.2.2⟩
theorem gs_abs_5 {D : Nat → Prop} {st : Nat → Int32} {b : Nat} (hD : ∀ j, D j → 1 ≤ j ∧ j ≤ b) (s : Nat) : gs_abs D st b s = 5 ↔ (st s = 5 ∨ D s) := by
  by_cases c : D s
  · rw [gs_abs_t ⟨(hD s c).1, (hD s c).2, c⟩]
    exact ⟨fun _ => Or.inr c, fun _ => rfl⟩
  · rw [gs_abs_f (fun z => c z.2.2)]
    exact ⟨Or.inl, fun h => h.resolve_right c⟩
/-- the predecessors behind an abort, worked up to u -/
def gs_prA (D : Nat → Prop) (pr : Nat → Int64) (u : Nat) (p : Nat → Int64) : Prop :=
  (∀ j, j < 1 ∨ u < j → p j = pr j) ∧ ∀ j, 1 ≤ j → j ≤ u → ∀ s, gs_m (p j) s ↔ gs_m (pr j) s ∧ ¬ D s ∧ ¬ D j
theorem gs_prA_0 (D : Nat → Prop) (pr : Nat → Int64) : gs_prA D pr 0 pr := ⟨fun _ _ => rfl, fun j h1 h2 => absurd h2 (by omega)⟩
theorem gs_prA_s {D : Nat → Prop} {pr p : Nat → Int64} {u : Nat} (h : gs_prA D pr u p) {w : Int64} (hw : ∀ s, gs_m w s ↔ gs_m (pr (u + 1)) s ∧ ¬ D s ∧ ¬ D (u + 1)) : gs_prA D pr (u + 1) (vp_updL p (u + 1) w) := by
  constructor
  · intro j hj
    rw [pk_uLn (by omega)]
    exact h.1 j (by omega)
  · intro j h1 h2 s
    by_cases e : j = u + 1
    · subst e
      rw [pk_uLs]
      exact hw s
    · rw [pk_uLn e]
      exact h.2 j h1 (by omega) s
/-- the relation of X's graph to the log -/
def gs_PE (pr : Nat → Int64) (E : Nat → Nat → Prop) : Prop := ∀ t, 1 ≤ t → t ≤ 64 → ∀ s, gs_m (pr t) s ↔ E s t
theorem gs_PE_ab {n b : Nat} {T : Nat → Nat} {X K st lt li lk : Nat → Int32} {pr p : Nat → Int64} {D : Nat → Prop} (hL : gs_Lg n b T X K lt li lk) (h : gs_PE pr (gs_E n T X K st))
    (hD : ∀ j, D j → 1 ≤ j ∧ j ≤ b) (hp : gs_prA D pr b p) : gs_PE p (gs_E n T X K (gs_abs D st b)) := by
  intro t h1 h2 s
  rw [gs_E_ab (gs_abs_5 hD) s t]
  by_cases c : t ≤ b
  · rw [hp.2 t h1 c s, h t h1 h2 s]
  · rw [hp.1 t (Or.inr (by omega)), h t h1 h2 s]
    constructor
    · intro e
      exact absurd (gs_E_in hL e).2.1.2 c
    · exact fun e => e.1
theorem gs_PE_c {pr : Nat → Int64} {E E' : Nat → Nat → Prop} (h : gs_PE pr E) (hE : ∀ s t, E s t ↔ E' s t) : gs_PE pr E' := fun t h1 h2 s => (h t h1 h2 s).trans (hE s t)
theorem gs_PE_app {n : Nat} {T : Nat → Nat} {X K st : Nat → Int32} {pr : Nat → Int64} {t : Nat} {x k : Int32} {w : Int64} (h : gs_PE pr (gs_E n T X K st)) (ht : ¬ st t = 5) (h1 : 1 ≤ t) (h2 : t ≤ 64)
    (hw : ∀ s, gs_m w s ↔ gs_Cf n T X K st t x k s) : gs_PE (vp_updL pr t (pr t ||| w)) (gs_E (n + 1) (gs_apN T n t) (upd X n x) (upd K n k) st) := by
  intro u u1 u2 s
  rw [gs_E_app ht s u]
  by_cases e : u = t
  · subst e
    rw [pk_uLs, gs_m_or, h u u1 u2 s, hw s]
    exact ⟨fun z => z.elim Or.inl (fun y => Or.inr ⟨rfl, y⟩), fun z => z.elim Or.inl (fun y => Or.inr y.2)⟩
  · rw [pk_uLn e, h u u1 u2 s]
    exact ⟨Or.inl, fun z => z.elim (fun y => y) (fun y => absurd y.1 e)⟩
theorem gs_Lg_app {n b : Nat} {T : Nat → Nat} {X K lt li lk : Nat → Int32} (hL : gs_Lg n b T X K lt li lk) {t : Nat} {x k : Int32} (h1 : 1 ≤ t) (h2 : t ≤ b) :
    gs_Lg (n + 1) b (gs_apN T n t) (upd X n x) (upd K n k) (upd lt n (nI t)) (upd li n x) (upd lk n k) := by
  intro j hj
  by_cases e : j = n
  · subst e
    rw [gs_apN_s, pk_us, pk_us, pk_us, pk_us, pk_us]
    exact ⟨rfl, h1, h2, rfl, rfl⟩
  · rw [gs_apN_n e, pk_un e, pk_un e, pk_un e, pk_un e, pk_un e]
    exact hL j (by omega)
theorem gs_Lg_keep {n b : Nat} {T : Nat → Nat} {X K lt li lk : Nat → Int32} (hL : gs_Lg n b T X K lt li lk) (a x k : Int32) : gs_Lg n b T X K (upd lt n a) (upd li n x) (upd lk n k) := by
  intro j hj
  have e : j ≠ n := by omega
  rw [pk_un e, pk_un e, pk_un e]
  exact hL j hj
theorem gs_Lg_b {n b : Nat} {T : Nat → Nat} {X K lt li lk : Nat → Int32} (hL : gs_Lg n b T X K lt li lk) : gs_Lg n (b + 1) T X K lt li lk :=
  fun j hj => ⟨(hL j hj).1, (hL j hj).2.1, Nat.le_succ_of_le (hL j hj).2.2.1, (hL j hj).2.2.2⟩
/-! facts of the reference: R f read what S f wrote -/
def gs_F (f : Nat) (R S : Nat → Nat) (t w : Nat) : Prop := ∃ i, i < f ∧ R i = t ∧ S i = w
def gs_Fc (f b : Nat) (R S : Nat → Nat) (rd sr : Nat → Int32) : Prop := ∀ j, j < f → rd j = nI (R j) ∧ sr j = nI (S j) ∧ (1 ≤ R j ∧ R j ≤ b) ∧ (1 ≤ S j ∧ S j ≤ b)
def gs_RF (rf : Nat → Int64) (F : Nat → Nat → Prop) : Prop := ∀ t, 1 ≤ t → t ≤ 64 → ∀ s, gs_m (rf t) s ↔ F t s
theorem gs_Fc_app {f b : Nat} {R S : Nat → Nat} {rd sr : Nat → Int32} (h : gs_Fc f b R S rd sr) {t w : Nat} (ht : 1 ≤ t ∧ t ≤ b) (hw : 1 ≤ w ∧ w ≤ b) :
    gs_Fc (f + 1) b (gs_apN R f t) (gs_apN S f w) (upd rd f (nI t)) (upd sr f (nI w)) := by
  intro j hj
  by_cases e : j = f
  · subst e
    rw [gs_apN_s, gs_apN_s, pk_us, pk_us]
    exact ⟨rfl, rfl, ht, hw⟩
  · rw [gs_apN_n e, gs_apN_n e, pk_un e, pk_un e]
    exact h j (by omega)
theorem gs_F_app {f : Nat} {R S : Nat → Nat} {t w : Nat} (a c : Nat) : gs_F (f + 1) (gs_apN R f t) (gs_apN S f w) a c ↔ gs_F f R S a c ∨ (a = t ∧ c = w) := by
  constructor
  · rintro ⟨i, hi, rfl, rfl⟩
    by_cases e : i = f
    · subst e
      rw [gs_apN_s, gs_apN_s]
      exact Or.inr ⟨rfl, rfl⟩
    · rw [gs_apN_n e, gs_apN_n e]
      exact Or.inl ⟨i, by omega, rfl, rfl⟩
  · rintro (⟨i, hi, rfl, rfl⟩ | ⟨rfl, rfl⟩)
    · have e : i ≠ f := by omega
      exact ⟨i, by omega, gs_apN_n e, gs_apN_n e⟩
    · exact ⟨f, by omega, gs_apN_s, gs_apN_s⟩
theorem gs_RF_app {f : Nat} {R S : Nat → Nat} {rf : Nat → Int64} {t w : Nat} {z : Int64} (h : gs_RF rf (gs_F f R S)) (hz : ∀ s, gs_m z s ↔ s = w) : gs_RF (vp_updL rf t (rf t ||| z)) (gs_F (f + 1) (gs_apN R f t) (gs_apN S f w)) := by
  intro u h1 h2 s
  rw [gs_F_app]
  by_cases e : u = t
  · subst e
    rw [pk_uLs, gs_m_or, h u h1 h2 s, hz s]
    exact ⟨fun c => c.elim Or.inl (fun y => Or.inr ⟨rfl, y⟩), fun c => c.elim Or.inl (fun y => Or.inr y.2)⟩
  · rw [pk_uLn e, h u h1 h2 s]
    exact ⟨Or.inl, fun c => c.elim (fun y => y) (fun y => absurd y.1 e)⟩
theorem gs_Fc_b {f b : Nat} {R S : Nat → Nat} {rd sr : Nat → Int32} (h : gs_Fc f b R S rd sr) : gs_Fc f (b + 1) R S rd sr :=
  fun j hj => ⟨(h j hj).1, (h j hj).2.1, ⟨(h j hj).2.2.1.1, Nat.le_succ_of_le (h j hj).2.2.1.2⟩, ⟨(h j hj).2.2.2.1, Nat.le_succ_of_le (h j hj).2.2.2.2⟩⟩
/-! the last of a kind, one more than its place; 0 if there is none -/
noncomputable def gs_lst (P : Nat → Prop) : Nat → Nat
  | 0 => 0
  | m + 1 => @ite Nat (P m) (Classical.propDecidable _) (m + 1) (gs_lst P m)
theorem gs_lst_t {P : Nat → Prop} {m : Nat} (h : P m) : gs_lst P (m + 1) = m + 1 := by rw [gs_lst, if_pos h]
theorem gs_lst_f {P : Nat → Prop} {m : Nat} (h : ¬ P m) : gs_lst P (m + 1) = gs_lst P m := by rw [gs_lst, if_neg h]
theorem gs_lst_in {P : Nat → Prop} {m i : Nat} (h : gs_lst P m = i + 1) : i < m ∧ P i := by
  induction m with
  | zero => exact absurd h (by rw [gs_lst]; omega)
  | succ m ih =>
    by_cases c : P m
    · rw [gs_lst_t c] at h
      obtain rfl : m = i := by omega
      exact ⟨by omega, c⟩
    · rw [gs_lst_f c] at h
      exact ⟨by have := (ih h).1; omega, (ih h).2⟩
theorem gs_lst_c {P Q : Nat → Prop} {m : Nat} (h : ∀ j, j < m → (P j ↔ Q j)) : gs_lst P m = gs_lst Q m := by
  induction m with
  | zero => rfl
  | succ m ih =>
    have e := ih (fun j hj => h j (by omega))
    by_cases c : P m
    · rw [gs_lst_t c, gs_lst_t ((h m (by omega)).mp c)]
    · rw [gs_lst_f c, gs_lst_f (fun q => c ((h m (by omega)).mpr q)), e]
/-- a transaction's number -/
theorem gs_tc (t : Int32) {b : Nat} (hb : b ≤ 64) : (∃ j, 1 ≤ j ∧ j ≤ b ∧ t = nI j) ∨ t < 1 ∨ (¬ t < 1 ∧ ¬ t ≤ nI b) := by
  by_cases h1 : t < 1
  · exact Or.inr (Or.inl h1)
  · have h0 : ¬ t < 0 := fun h => h1 (Int32.lt_trans h (by decide))
    obtain ⟨j, hj, rfl⟩ := nI_of h0
    by_cases h2 : j ≤ b
    · refine Or.inl ⟨j, ?_, h2, rfl⟩
      apply Classical.byContradiction
      intro h
      obtain rfl : j = 0 := by omega
      exact h1 (by decide)
    · exact Or.inr (Or.inr ⟨h1, fun h => h2 ((nI_leI hj (by omega)).mp h)⟩)
