/-! sets of transactions as longs: s is in w when bit s - 1 of w is set -/
def gs_m (w : Int64) (s : Nat) : Prop := 1 ≤ s ∧ s ≤ 64 ∧ w.toBitVec.getLsbD (s - 1) = true
theorem gs_m_or (a b : Int64) (s : Nat) : gs_m (a ||| b) s ↔ gs_m a s ∨ gs_m b s := by
  unfold gs_m
  rw [Int64.toBitVec_or, BitVec.getLsbD_or, Bool.or_eq_true]
  constructor
  · rintro ⟨h1, h2, h | h⟩
    · exact Or.inl ⟨h1, h2, h⟩
    · exact Or.inr ⟨h1, h2, h⟩
  · rintro (⟨h1, h2, h⟩ | ⟨h1, h2, h⟩)
    · exact ⟨h1, h2, Or.inl h⟩
    · exact ⟨h1, h2, Or.inr h⟩
theorem gs_m_and (a b : Int64) (s : Nat) : gs_m (a &&& b) s ↔ gs_m a s ∧ gs_m b s := by
  unfold gs_m
  rw [Int64.toBitVec_and, BitVec.getLsbD_and, Bool.and_eq_true]
  constructor
  · rintro ⟨h1, h2, h, h'⟩
    exact ⟨⟨h1, h2, h⟩, h1, h2, h'⟩
  · rintro ⟨⟨h1, h2, h⟩, _, _, h'⟩
    exact ⟨h1, h2, h, h'⟩
theorem gs_m_0 (s : Nat) : ¬ gs_m 0 s := by
  rintro ⟨_, _, h⟩
  rw [show (0 : Int64).toBitVec = 0#64 from rfl, BitVec.getLsbD_zero] at h
  exact Bool.noConfusion h
theorem gs_m_not (a d : Int64) (s : Nat) : gs_m (a &&& (d ^^^ (-1))) s ↔ gs_m a s ∧ ¬ gs_m d s := by
  rw [gs_m_and]
  have hd : 1 ≤ s → s ≤ 64 → (gs_m (d ^^^ (-1)) s ↔ ¬ gs_m d s) := by
    intro h1 h2
    unfold gs_m
    rw [Int64.toBitVec_xor, BitVec.getLsbD_xor, show (-1 : Int64).toBitVec = BitVec.allOnes 64 from by decide, BitVec.getLsbD_allOnes, decide_eq_true (show s - 1 < 64 by omega)]
    cases d.toBitVec.getLsbD (s - 1) <;> simp [h1, h2]
  constructor
  · rintro ⟨h, h'⟩
    exact ⟨h, (hd h.1 h.2.1).mp h'⟩
  · rintro ⟨h, h'⟩
    exact ⟨h, (hd h.1 h.2.1).mpr h'⟩
theorem gs_0_iff (w : Int64) : w = 0 ↔ ∀ s, ¬ gs_m w s := by
  constructor
  · intro h s
    rw [h]
    exact gs_m_0 s
  · intro h
    apply wb_inj
    apply BitVec.eq_of_getLsbD_eq
    intro i hi
    rw [show (0 : Int64).toBitVec = 0#64 from rfl, BitVec.getLsbD_zero]
    cases e : w.toBitVec.getLsbD i with
    | false => rfl
    | true => exact absurd ⟨by omega, by omega, by rw [Nat.add_sub_cancel]; exact e⟩ (h (i + 1))
theorem gs_and0 (w v : Int64) : w &&& v = 0 ↔ ∀ s, gs_m w s → ¬ gs_m v s := by
  rw [gs_0_iff]
  constructor
  · intro h s hw hv
    exact h s ((gs_m_and w v s).mpr ⟨hw, hv⟩)
  · intro h s hs
    exact h s ((gs_m_and w v s).mp hs).1 ((gs_m_and w v s).mp hs).2
def gs_bit (t : Nat) : Int64 := lN (2 ^ (t - 1))
theorem gs_m_bit {t : Nat} (h1 : 1 ≤ t) (h2 : t ≤ 64) (s : Nat) : gs_m (gs_bit t) s ↔ s = t := by
  unfold gs_m gs_bit
  rw [wb_tb, BitVec.getLsbD_ofNat, Nat.testBit_two_pow, Bool.and_eq_true, decide_eq_true_eq, decide_eq_true_eq]
  omega
theorem gs_bit_e {t : Nat} (h1 : 1 ≤ t) (h2 : t ≤ 64) : (1 : Int64) <<< ((nI t - 1).toInt64 &&& 63) = gs_bit t := by
  obtain ⟨k, rfl⟩ : ∃ k, t = k + 1 := ⟨t - 1, by omega⟩
  rw [nI_pred, show (1 : Int64) = lN 1 from rfl, wb_shl 1 (show k < 64 by omega), Nat.one_mul]
  rfl
theorem gs_has {w : Int64} {t : Nat} (h1 : 1 ≤ t) (h2 : t ≤ 64) : w &&& gs_bit t = 0 ↔ ¬ gs_m w t := by
  rw [gs_and0]
  constructor
  · intro h hw
    exact h t hw ((gs_m_bit h1 h2 t).mpr rfl)
  · intro h s hw hs
    rw [(gs_m_bit h1 h2 s).mp hs] at hw
    exact h hw
/-! least sets -/
def gs_L (S : Nat → Prop) (R : Nat → Nat → Prop) (x : Nat) : Prop := ∀ A : Nat → Prop, (∀ c, S c → A c) → (∀ t s, A t → R t s → A s) → A x
theorem gs_L_b {S : Nat → Prop} {R : Nat → Nat → Prop} {x : Nat} (h : S x) : gs_L S R x := fun _ h1 _ => h1 x h
theorem gs_L_s {S : Nat → Prop} {R : Nat → Nat → Prop} {t s : Nat} (h : gs_L S R t) (r : R t s) : gs_L S R s := fun A h1 h2 => h2 t s (h A h1 h2) r
theorem gs_L_i {S : Nat → Prop} {R : Nat → Nat → Prop} {A : Nat → Prop} (h1 : ∀ c, S c → A c) (h2 : ∀ t s, A t → R t s → A s) {x : Nat} (h : gs_L S R x) : A x := h A h1 h2
theorem gs_L_m {S S' : Nat → Prop} {R R' : Nat → Nat → Prop} (h1 : ∀ c, S c → S' c) (h2 : ∀ t s, R t s → R' t s) {x : Nat} (h : gs_L S R x) : gs_L S' R' x :=
  gs_L_i (fun c hc => gs_L_b (h1 c hc)) (fun _ _ ht hr => gs_L_s ht (h2 _ _ hr)) h
theorem gs_L_c {S S' : Nat → Prop} {R R' : Nat → Nat → Prop} (h1 : ∀ c, S c ↔ S' c) (h2 : ∀ t s, R t s ↔ R' t s) (x : Nat) : gs_L S R x ↔ gs_L S' R' x :=
  ⟨gs_L_m (fun c => (h1 c).mp) (fun t s => (h2 t s).mp), gs_L_m (fun c => (h1 c).mpr) (fun t s => (h2 t s).mpr)⟩
/-! counting in 1 .. m -/
noncomputable def gs_cnt (A : Nat → Prop) : Nat → Nat
  | 0 => 0
  | m + 1 => gs_cnt A m + @ite Nat (A (m + 1)) (Classical.propDecidable _) 1 0
theorem gs_cnt_t {A : Nat → Prop} {m : Nat} (h : A (m + 1)) : gs_cnt A (m + 1) = gs_cnt A m + 1 := by rw [gs_cnt, if_pos h]
theorem gs_cnt_f {A : Nat → Prop} {m : Nat} (h : ¬ A (m + 1)) : gs_cnt A (m + 1) = gs_cnt A m := by rw [gs_cnt, if_neg h, Nat.add_zero]
theorem gs_cnt_le (A : Nat → Prop) (m : Nat) : gs_cnt A m ≤ m := by
  induction m with
  | zero => exact Nat.le_refl 0
  | succ m ih =>
    by_cases h : A (m + 1)
    · rw [gs_cnt_t h]; omega
    · rw [gs_cnt_f h]; omega
theorem gs_cnt_mono {A B : Nat → Prop} (hAB : ∀ s, A s → B s) (m : Nat) : gs_cnt A m ≤ gs_cnt B m := by
  induction m with
  | zero => exact Nat.le_refl 0
  | succ m ih =>
    by_cases hA : A (m + 1)
    · rw [gs_cnt_t hA, gs_cnt_t (hAB _ hA)]; omega
    · by_cases hB : B (m + 1)
      · rw [gs_cnt_f hA, gs_cnt_t hB]; omega
      · rw [gs_cnt_f hA, gs_cnt_f hB]; omega
theorem gs_cnt_c {A B : Nat → Prop} {m : Nat} (h : ∀ s, 1 ≤ s → s ≤ m → (A s ↔ B s)) : gs_cnt A m = gs_cnt B m := by
  induction m with
  | zero => rfl
  | succ m ih =>
    have e := ih (fun s h1 h2 => h s h1 (by omega))
    have hm := h (m + 1) (by omega) (by omega)
    by_cases hA : A (m + 1)
    · rw [gs_cnt_t hA, gs_cnt_t (hm.mp hA), e]
    · rw [gs_cnt_f hA, gs_cnt_f (fun hB => hA (hm.mpr hB)), e]
theorem gs_cnt_rm {A B : Nat → Prop} {s : Nat} (hA : A s) (hB : ¬ B s) (h : ∀ j, j ≠ s → (A j ↔ B j)) {m : Nat} (h1 : 1 ≤ s) (h2 : s ≤ m) : gs_cnt B m + 1 = gs_cnt A m := by
  induction m with
  | zero => omega
  | succ m ih =>
    by_cases e : s = m + 1
    · subst e
      rw [gs_cnt_t hA, gs_cnt_f hB, gs_cnt_c (A := B) (B := A) (fun j _ hj => (h j (by omega)).symm)]
    · have ih := ih (by omega)
      have hm := h (m + 1) (by omega)
      by_cases c : A (m + 1)
      · rw [gs_cnt_t c, gs_cnt_t (hm.mp c)]; omega
      · rw [gs_cnt_f c, gs_cnt_f (fun hB => c (hm.mpr hB))]; omega
theorem gs_cnt_lt {A B : Nat → Prop} (hAB : ∀ s, A s → B s) {s : Nat} (hs : B s) (hn : ¬ A s) {m : Nat} (h1 : 1 ≤ s) (h2 : s ≤ m) : gs_cnt A m + 1 ≤ gs_cnt B m := by
  have e : gs_cnt (fun j => B j ∧ j ≠ s) m + 1 = gs_cnt B m := gs_cnt_rm (A := B) (B := fun j => B j ∧ j ≠ s) hs (fun h => h.2 rfl) (fun j hj => ⟨fun h => ⟨h, hj⟩, fun h => h.1⟩) h1 h2
  have l : gs_cnt A m ≤ gs_cnt (fun j => B j ∧ j ≠ s) m := gs_cnt_mono (fun j hj => ⟨hAB j hj, fun e => hn (e ▸ hj)⟩) m
  omega
theorem gs_cnt_full {A : Nat → Prop} {m : Nat} (h : m ≤ gs_cnt A m) : ∀ s, 1 ≤ s → s ≤ m → A s := by
  intro s h1 h2
  apply Classical.byContradiction
  intro hn
  have a := gs_cnt_lt (A := A) (B := fun _ => True) (fun _ _ => trivial) (s := s) trivial hn (m := m) h1 h2
  have b := gs_cnt_le (fun _ => True) m
  omega
theorem gs_cnt_none {A : Nat → Prop} {m : Nat} (h : gs_cnt A m = 0) : ∀ s, 1 ≤ s → s ≤ m → ¬ A s := by
  intro s h1 h2 hA
  have a := gs_cnt_lt (A := fun _ => False) (B := A) (fun _ h => h.elim) (s := s) hA (fun h => h) (m := m) h1 h2
  omega
/-! saturation by rounds: the bit rounds of X, the marked rounds of the reference -/
def gs_Sat (S : Nat → Prop) (R : Nat → Nat → Prop) (b r : Nat) (A : Nat → Prop) : Prop :=
  (∀ s, S s → A s) ∧ (∀ s, A s → gs_L S R s) ∧ ((∀ s, gs_L S R s → A s) ∨ r ≤ gs_cnt A b)
theorem gs_sat0 (S : Nat → Prop) (R : Nat → Nat → Prop) (b : Nat) : gs_Sat S R b 0 S := ⟨fun _ h => h, fun _ h => gs_L_b h, Or.inr (Nat.zero_le _)⟩
theorem gs_satS {S : Nat → Prop} {R : Nat → Nat → Prop} {b r : Nat} {A A' : Nat → Prop} (hb : ∀ s, gs_L S R s → 1 ≤ s ∧ s ≤ b) (hA : gs_Sat S R b r A)
    (h1 : ∀ s, A s → A' s) (h2 : ∀ s, A' s → gs_L S R s) (h3 : ∀ t s, A t → R t s → A' s) : gs_Sat S R b (r + 1) A' := by
  refine ⟨fun s h => h1 s (hA.1 s h), h2, ?_⟩
  by_cases c : ∀ s, gs_L S R s → A s
  · exact Or.inl (fun s h => h1 s (c s h))
  · have hr := hA.2.2.resolve_left c
    have hx : ∃ s, A' s ∧ ¬ A s := by
      apply Classical.byContradiction
      intro hn
      apply c
      intro s hs
      exact gs_L_i hA.1 (fun t s ht hr => Classical.byContradiction fun h => hn ⟨s, h3 t s ht hr, h⟩) hs
    obtain ⟨s, h', hn⟩ := hx
    have hs := hb s (h2 s h')
    have hc := gs_cnt_lt h1 h' hn hs.1 hs.2
    exact Or.inr (by omega)
theorem gs_satE {S : Nat → Prop} {R : Nat → Nat → Prop} {b : Nat} {A : Nat → Prop} (hb : ∀ s, gs_L S R s → 1 ≤ s ∧ s ≤ b) (hA : gs_Sat S R b b A) (s : Nat) : A s ↔ gs_L S R s := by
  refine ⟨hA.2.1 s, fun h => ?_⟩
  cases hA.2.2 with
  | inl c => exact c s h
  | inr c => exact gs_cnt_full c s (hb s h).1 (hb s h).2
def gs_Mk (S : Nat → Prop) (R : Nat → Nat → Prop) (b r : Nat) (A : Nat → Prop) (ch : Prop) : Prop :=
  (∀ s, A s → gs_L S R s) ∧ ((¬ ch ∧ ∀ s, gs_L S R s → A s) ∨ (ch ∧ r ≤ gs_cnt A b))
theorem gs_mkS {S : Nat → Prop} {R : Nat → Nat → Prop} {b r : Nat} {A A' : Nat → Prop} {ch : Prop} (hb : ∀ s, gs_L S R s → 1 ≤ s ∧ s ≤ b) (hr : r ≤ gs_cnt A b)
    (h1 : ∀ s, A s → A' s) (h2 : ∀ s, A' s → gs_L S R s) (h3 : ch → ∃ s, A' s ∧ ¬ A s) (h4 : ¬ ch → (∀ s, S s → A' s) ∧ (∀ t s, A' t → R t s → A' s)) : gs_Mk S R b (r + 1) A' ch := by
  refine ⟨h2, ?_⟩
  by_cases c : ch
  · obtain ⟨s, h', hn⟩ := h3 c
    have hs := hb s (h2 s h')
    have hc := gs_cnt_lt h1 h' hn hs.1 hs.2
    exact Or.inr ⟨c, by omega⟩
  · exact Or.inl ⟨c, fun s hs => gs_L_i (h4 c).1 (h4 c).2 hs⟩
theorem gs_mkE {S : Nat → Prop} {R : Nat → Nat → Prop} {b r : Nat} {A : Nat → Prop} {ch : Prop} (hA : gs_Mk S R b r A ch) (h : ¬ ch ∨ b < r) (s : Nat) : A s ↔ gs_L S R s := by
  refine ⟨hA.1 s, fun hs => ?_⟩
  cases hA.2 with
  | inl c => exact c.2 s hs
  | inr c =>
    cases h with
    | inl h => exact absurd c.1 h
    | inr h => have := gs_cnt_le A b; omega
/-! paths -/
def gs_Pl (E : Nat → Nat → Prop) (a : Nat) : Nat → Prop := gs_L (E a) E
def gs_Bk (C : Nat → Prop) (E : Nat → Nat → Prop) : Nat → Prop := gs_L C (fun t s => E s t)
theorem gs_Pl_pre {E : Nat → Nat → Prop} {a c x : Nat} (h : E a c) (p : gs_Pl E c x) : gs_Pl E a x :=
  gs_L_i (A := gs_Pl E a) (fun _ he => gs_L_s (gs_L_b h) he) (fun _ _ ht hr => gs_L_s ht hr) p
theorem gs_Bk_pre {C : Nat → Prop} {E : Nat → Nat → Prop} {a x : Nat} (p : gs_Pl E a x) (h : gs_Bk C E x) : gs_Bk C E a := by
  have h0 : ∀ y, gs_Pl E a y → gs_Bk C E y → gs_Bk C E a := by
    intro y hy
    refine gs_L_i (A := fun y => gs_Bk C E y → gs_Bk C E a) ?_ ?_ hy
    · intro c hc hb
      exact gs_L_s hb hc
    · intro t s ht hr hb
      exact ht (gs_L_s hb hr)
  exact h0 x p h
theorem gs_Bk_Pl {E : Nat → Nat → Prop} {a u : Nat} : gs_Bk (fun s => E s u) E a ↔ gs_Pl E a u := by
  constructor
  · intro h
    exact gs_L_i (A := fun a => gs_Pl E a u) (fun c hc => gs_L_b hc) (fun t s ht hr => gs_Pl_pre hr ht) h
  · intro h
    have h0 : ∀ y, gs_Pl E a y → gs_Bk (fun s => E s y) E a := by
      intro y hy
      refine gs_L_i (A := fun y => gs_Bk (fun s => E s y) E a) (fun c hc => gs_L_b hc) ?_ hy
      intro t s ht hr
      exact gs_L_i (A := gs_Bk (fun z => E z s) E) (fun c hc => gs_L_s (gs_L_b (x := t) hr) hc) (fun _ _ h1 h2 => gs_L_s h1 h2) ht
    exact h0 u h
theorem gs_cyc {E E' : Nat → Nat → Prop} {C : Nat → Prop} {t : Nat} (hE : ∀ s u, E' s u ↔ E s u ∨ (u = t ∧ C s)) (ac : ∀ z, ¬ gs_Pl E z z) : gs_Pl E' t t ↔ gs_Bk C E t := by
  constructor
  · intro h
    have h0 : ∀ y, gs_Pl E' t y → gs_Pl E t y ∨ gs_Bk C E t := by
      intro y hy
      refine gs_L_i (A := fun y => gs_Pl E t y ∨ gs_Bk C E t) ?_ ?_ hy
      · intro c hc
        cases (hE t c).mp hc with
        | inl h => exact Or.inl (gs_L_b h)
        | inr h => exact Or.inr (gs_L_b h.2)
      · intro x y hx hr
        cases hx with
        | inr h => exact Or.inr h
        | inl h =>
          cases (hE x y).mp hr with
          | inl h' => exact Or.inl (gs_L_s h h')
          | inr h' => exact Or.inr (gs_Bk_pre h (gs_L_b h'.2))
    exact (h0 t h).resolve_left (ac t)
  · intro h
    exact gs_L_i (A := fun s => gs_Pl E' s t) (fun c hc => gs_L_b ((hE c t).mpr (Or.inr ⟨rfl, hc⟩))) (fun u s hu hr => gs_Pl_pre ((hE s u).mpr (Or.inl hr)) hu) h
theorem gs_acy {E E' : Nat → Nat → Prop} {C : Nat → Prop} {t : Nat} (hE : ∀ s u, E' s u ↔ E s u ∨ (u = t ∧ C s)) (ac : ∀ z, ¬ gs_Pl E z z) (hn : ¬ gs_Bk C E t) : ∀ z, ¬ gs_Pl E' z z := by
  intro z hz
  have h0 : ∀ y, gs_Pl E' z y → gs_Pl E z y ∨ (gs_Bk C E z ∧ (y = t ∨ gs_Pl E t y)) := by
    intro y hy
    refine gs_L_i (A := fun y => gs_Pl E z y ∨ (gs_Bk C E z ∧ (y = t ∨ gs_Pl E t y))) ?_ ?_ hy
    · intro c hc
      cases (hE z c).mp hc with
      | inl h => exact Or.inl (gs_L_b h)
      | inr h => exact Or.inr ⟨gs_L_b h.2, Or.inl h.1⟩
    · intro x y hx hr
      cases (hE x y).mp hr with
      | inr h' =>
        cases hx with
        | inl h => exact Or.inr ⟨gs_Bk_pre h (gs_L_b h'.2), Or.inl h'.1⟩
        | inr h => exact Or.inr ⟨h.1, Or.inl h'.1⟩
      | inl h' =>
        cases hx with
        | inl h => exact Or.inl (gs_L_s h h')
        | inr h =>
          refine Or.inr ⟨h.1, Or.inr ?_⟩
          cases h.2 with
          | inl e => rw [e] at h'; exact gs_L_b h'
          | inr p => exact gs_L_s p h'
  cases h0 z hz with
  | inl h => exact ac z h
  | inr h =>
    cases h.2 with
    | inl e => rw [e] at h; exact hn h.1
    | inr p => exact hn (gs_Bk_pre p h.1)
theorem gs_acm {E E' : Nat → Nat → Prop} (hE : ∀ s u, E' s u → E s u) (ac : ∀ z, ¬ gs_Pl E z z) : ∀ z, ¬ gs_Pl E' z z :=
  fun z h => ac z (gs_L_m (hE z) hE h)
