section
theorem pk_us {f : Nat → Int32} {k : Nat} {x : Int32} : upd f k x k = x := if_pos rfl
theorem pk_un {f : Nat → Int32} {k j : Nat} {x : Int32} (h : j ≠ k) : upd f k x j = f j := if_neg h
theorem pk_uLs {f : Nat → Int64} {k : Nat} {x : Int64} : vp_updL f k x k = x := if_pos rfl
theorem pk_uLn {f : Nat → Int64} {k j : Nat} {x : Int64} (h : j ≠ k) : vp_updL f k x j = f j := if_neg h
theorem pk_sub {a b : Nat} (h : b ≤ a) : nI a - nI b = nI (a - b) := by
  obtain ⟨c, rfl⟩ : ∃ c, a = c + b := ⟨a - b, by omega⟩
  rw [← nI_add, Int32.add_sub_cancel, Nat.add_sub_cancel]
theorem pk_m1 (n : Nat) : nI (n + 1) + (-1) = nI n := by
  rw [← nI_1, Int32.add_assoc, show (1 : Int32) + (-1) = 0 from rfl, Int32.add_zero]
theorem pk_ix (x : Int32) {n : Nat} (hn : n < 2 ^ 31) : x < 0 ∨ nI n ≤ x ∨ ∃ j : Nat, j < n ∧ x = nI j := by
  by_cases h : x < 0
  · exact Or.inl h
  · obtain ⟨j, hj, rfl⟩ := nI_of h
    by_cases h2 : j < n
    · exact Or.inr (Or.inr ⟨j, h2, rfl⟩)
    · exact Or.inr (Or.inl (nI_le (by omega) hj))
theorem pk_le {x y : Int32} {A B : Prop} (a b : Nat) (f : a ≤ b → A) (g : b < a → B) (hx : x = nI a := by rfl) (hy : y = nI b := by rfl) (ha : a < 2 ^ 31 := by omega) (hb : b < 2 ^ 31 := by omega) : (x ≤ y → A) ∧ (¬ x ≤ y → B) := by
  subst hx hy
  rw [nI_leI ha hb]
  exact ⟨f, fun z => g (by omega)⟩
theorem pk_lt {x y : Int32} {A B : Prop} (a b : Nat) (f : a < b → A) (g : b ≤ a → B) (hx : x = nI a := by rfl) (hy : y = nI b := by rfl) (ha : a < 2 ^ 31 := by omega) (hb : b < 2 ^ 31 := by omega) : (x < y → A) ∧ (¬ x < y → B) := by
  subst hx hy
  rw [nI_ltI ha hb]
  exact ⟨f, fun z => g (by omega)⟩
theorem pk_eq {x y : Int32} {A B : Prop} (a b : Nat) (f : a = b → A) (g : a ≠ b → B) (hx : x = nI a := by rfl) (hy : y = nI b := by rfl) (ha : a < 2 ^ 31 := by omega) (hb : b < 2 ^ 31 := by omega) : (x = y → A) ∧ (¬ x = y → B) := by
  subst hx hy
  rw [nI_eq ha hb]
  exact ⟨f, g⟩
theorem pk_in {x : Int32} (n N : Nat) (h : n < N) (hx : x = nI n := by rfl) (hN : N < 2 ^ 31 := by omega) : vp_in x N := by
  subst hx
  exact vp_in_nI h hN
theorem pk_cl {x : Int32} (n : Nat) (hx : x = nI n := by rfl) (h : n < 2 ^ 31 := by omega) : x.toNatClampNeg = n := by
  subst hx
  exact nI_clamp h
theorem pk_loop {σ : Type} (W : Nat → Nat → σ → Prop) (I : Nat → σ → Prop) (e i0 : Nat) (s : σ) (hi : i0 ≤ e) (h0 : I i0 s) (hx : ∀ n s, I e s → W (n + 1) e s)
    (hs : ∀ n i s, i < e → I i s → (∀ s', I (i + 1) s' → W n (i + 1) s') → W (n + 1) i s) : ∃ n, W n i0 s :=
  ⟨e + 1, loop_i W I e hx hs (e + 1) i0 s hi (by omega) h0⟩
theorem pk_loopD {σ : Type} (W : Nat → Nat → σ → Prop) (I : Nat → σ → Prop) (hx : ∀ n s, I 0 s → W (n + 1) 0 s)
    (hs : ∀ n i s, I (i + 1) s → (∀ s', I i s' → W n i s') → W (n + 1) (i + 1) s) : ∀ (e : Nat) (s : σ), I e s → W (e + 1) e s := by
  intro e
  induction e with
  | zero => exact fun s h => hx 0 s h
  | succ e ih => exact fun s h => hs (e + 1) e s h (fun s' h' => ih s' h')
theorem wb_tb (n : Nat) : (lN n).toBitVec = BitVec.ofNat 64 n := rfl
theorem wb_inj {a b : Int64} (h : a.toBitVec = b.toBitVec) : a = b := Int64.toBitVec_inj.mp h
theorem wb_c : ∀ k, k < 64 → ((nI k).toInt64 &&& 63) = lN k := by decide +kernel
theorem wb_sm : ∀ k, k < 64 → (BitVec.ofNat 64 k).smod 64 = BitVec.ofNat 64 k := by decide +kernel
theorem wb_shl (n : Nat) {k : Nat} (hk : k < 64) : lN n <<< ((nI k).toInt64 &&& 63) = lN (n * 2 ^ k) := by
  rw [wb_c k hk]
  apply wb_inj
  rw [Int64.toBitVec_shiftLeft, wb_tb, wb_tb, wb_tb, wb_sm k hk]
  apply BitVec.eq_of_toNat_eq
  rw [BitVec.shiftLeft_eq', BitVec.toNat_shiftLeft, BitVec.toNat_ofNat, BitVec.toNat_ofNat, BitVec.toNat_ofNat, Nat.mod_eq_of_lt (show k < 2 ^ 64 by omega), Nat.shiftLeft_eq, Nat.mul_mod, Nat.mod_mod, ← Nat.mul_mod]
end
section
/-! sets of transactions as longs: s is in w when bit s - 1 of w is set -/
def gs_m (w : Int64) (s : Nat) : Prop := 1 ≤ s ∧ s ≤ 64 ∧ w.toBitVec.getLsbD (s - 1) = true
theorem gs_m_or (a b : Int64) (s : Nat) : gs_m (a ||| b) s ↔ gs_m a s ∨ gs_m b s := by
  unfold gs_m
  rw [Int64.toBitVec_or, BitVec.getLsbD_or, Bool.or_eq_true]
  constructor
  · rintro ⟨h1, h2, h | h⟩
    · exact Or.inl ⟨h1, h2, h⟩
    · exact Or.inr ⟨h1, h2, h⟩
  · rintro (⟨h1, h2, h⟩ | ⟨h1, h2, h⟩)
    · exact ⟨h1, h2, Or.inl h⟩
    · exact ⟨h1, h2, Or.inr h⟩
theorem gs_m_and (a b : Int64) (s : Nat) : gs_m (a &&& b) s ↔ gs_m a s ∧ gs_m b s := by
  unfold gs_m
  rw [Int64.toBitVec_and, BitVec.getLsbD_and, Bool.and_eq_true]
  constructor
  · rintro ⟨h1, h2, h, h'⟩
    exact ⟨⟨h1, h2, h⟩, h1, h2, h'⟩
  · rintro ⟨⟨h1, h2, h⟩, _, _, h'⟩
    exact ⟨h1, h2, h, h'⟩
theorem gs_m_0 (s : Nat) : ¬ gs_m 0 s := by
  rintro ⟨_, _, h⟩
  rw [show (0 : Int64).toBitVec = 0#64 from rfl, BitVec.getLsbD_zero] at h
  exact Bool.noConfusion h
theorem gs_m_not (a d : Int64) (s : Nat) : gs_m (a &&& (d ^^^ (-1))) s ↔ gs_m a s ∧ ¬ gs_m d s := by
  rw [gs_m_and]
  have hd : 1 ≤ s → s ≤ 64 → (gs_m (d ^^^ (-1)) s ↔ ¬ gs_m d s) := by
    intro h1 h2
    unfold gs_m
    rw [Int64.toBitVec_xor, BitVec.getLsbD_xor, show (-1 : Int64).toBitVec = BitVec.allOnes 64 from by decide, BitVec.getLsbD_allOnes, decide_eq_true (show s - 1 < 64 by omega)]
    cases d.toBitVec.getLsbD (s - 1) <;> simp [h1, h2]
  constructor
  · rintro ⟨h, h'⟩
    exact ⟨h, (hd h.1 h.2.1).mp h'⟩
  · rintro ⟨h, h'⟩
    exact ⟨h, (hd h.1 h.2.1).mpr h'⟩
theorem gs_0_iff (w : Int64) : w = 0 ↔ ∀ s, ¬ gs_m w s := by
  constructor
  · intro h s
    rw [h]
    exact gs_m_0 s
  · intro h
    apply wb_inj
    apply BitVec.eq_of_getLsbD_eq
    intro i hi
    rw [show (0 : Int64).toBitVec = 0#64 from rfl, BitVec.getLsbD_zero]
    cases e : w.toBitVec.getLsbD i with
    | false => rfl
    | true => exact absurd ⟨by omega, by omega, by rw [Nat.add_sub_cancel]; exact e⟩ (h (i + 1))
theorem gs_and0 (w v : Int64) : w &&& v = 0 ↔ ∀ s, gs_m w s → ¬ gs_m v s := by
  rw [gs_0_iff]
  constructor
  · intro h s hw hv
    exact h s ((gs_m_and w v s).mpr ⟨hw, hv⟩)
  · intro h s hs
    exact h s ((gs_m_and w v s).mp hs).1 ((gs_m_and w v s).mp hs).2
def gs_bit (t : Nat) : Int64 := lN (2 ^ (t - 1))
theorem gs_m_bit {t : Nat} (h1 : 1 ≤ t) (h2 : t ≤ 64) (s : Nat) : gs_m (gs_bit t) s ↔ s = t := by
  unfold gs_m gs_bit
  rw [wb_tb, BitVec.getLsbD_ofNat, Nat.testBit_two_pow, Bool.and_eq_true, decide_eq_true_eq, decide_eq_true_eq]
  omega
theorem gs_bit_e {t : Nat} (h1 : 1 ≤ t) (h2 : t ≤ 64) : (1 : Int64) <<< ((nI t - 1).toInt64 &&& 63) = gs_bit t := by
  obtain ⟨k, rfl⟩ : ∃ k, t = k + 1 := ⟨t - 1, by omega⟩
  rw [nI_pred, show (1 : Int64) = lN 1 from rfl, wb_shl 1 (show k < 64 by omega), Nat.one_mul]
  rfl
theorem gs_has {w : Int64} {t : Nat} (h1 : 1 ≤ t) (h2 : t ≤ 64) : w &&& gs_bit t = 0 ↔ ¬ gs_m w t := by
  rw [gs_and0]
  constructor
  · intro h hw
    exact h t hw ((gs_m_bit h1 h2 t).mpr rfl)
  · intro h s hw hs
    rw [(gs_m_bit h1 h2 s).mp hs] at hw
    exact h hw
/-! least sets -/
def gs_L (S : Nat → Prop) (R : Nat → Nat → Prop) (x : Nat) : Prop := ∀ A : Nat → Prop, (∀ c, S c → A c) → (∀ t s, A t → R t s → A s) → A x
theorem gs_L_b {S : Nat → Prop} {R : Nat → Nat → Prop} {x : Nat} (h : S x) : gs_L S R x := fun _ h1 _ => h1 x h
theorem gs_L_s {S : Nat → Prop} {R : Nat → Nat → Prop} {t s : Nat} (h : gs_L S R t) (r : R t s) : gs_L S R s := fun A h1 h2 => h2 t s (h A h1 h2) r
theorem gs_L_i {S : Nat → Prop} {R : Nat → Nat → Prop} {A : Nat → Prop} (h1 : ∀ c, S c → A c) (h2 : ∀ t s, A t → R t s → A s) {x : Nat} (h : gs_L S R x) : A x := h A h1 h2
theorem gs_L_m {S S' : Nat → Prop} {R R' : Nat → Nat → Prop} (h1 : ∀ c, S c → S' c) (h2 : ∀ t s, R t s → R' t s) {x : Nat} (h : gs_L S R x) : gs_L S' R' x :=
  gs_L_i (fun c hc => gs_L_b (h1 c hc)) (fun _ _ ht hr => gs_L_s ht (h2 _ _ hr)) h
theorem gs_L_c {S S' : Nat → Prop} {R R' : Nat → Nat → Prop} (h1 : ∀ c, S c ↔ S' c) (h2 : ∀ t s, R t s ↔ R' t s) (x : Nat) : gs_L S R x ↔ gs_L S' R' x :=
  ⟨gs_L_m (fun c => (h1 c).mp) (fun t s => (h2 t s).mp), gs_L_m (fun c => (h1 c).mpr) (fun t s => (h2 t s).mpr)⟩
/-! counting in 1 .. m -/
noncomputable def gs_cnt (A : Nat → Prop) : Nat → Nat
  | 0 => 0
  | m + 1 => gs_cnt A m + @ite Nat (A (m + 1)) (Classical.propDecidable _) 1 0
theorem gs_cnt_t {A : Nat → Prop} {m : Nat} (h : A (m + 1)) : gs_cnt A (m + 1) = gs_cnt A m + 1 := by rw [gs_cnt, if_pos h]
theorem gs_cnt_f {A : Nat → Prop} {m : Nat} (h : ¬ A (m + 1)) : gs_cnt A (m + 1) = gs_cnt A m := by rw [gs_cnt, if_neg h, Nat.add_zero]
theorem gs_cnt_le (A : Nat → Prop) (m : Nat) : gs_cnt A m ≤ m := by
  induction m with
  | zero => exact Nat.le_refl 0
  | succ m ih =>
    by_cases h : A (m + 1)
    · rw [gs_cnt_t h]; omega
    · rw [gs_cnt_f h]; omega
theorem gs_cnt_mono {A B : Nat → Prop} (hAB : ∀ s, A s → B s) (m : Nat) : gs_cnt A m ≤ gs_cnt B m := by
  induction m with
  | zero => exact Nat.le_refl 0
  | succ m ih =>
    by_cases hA : A (m + 1)
    · rw [gs_cnt_t hA, gs_cnt_t (hAB _ hA)]; omega
    · by_cases hB : B (m + 1)
      · rw [gs_cnt_f hA, gs_cnt_t hB]; omega
      · rw [gs_cnt_f hA, gs_cnt_f hB]; omega
theorem gs_cnt_c {A B : Nat → Prop} {m : Nat} (h : ∀ s, 1 ≤ s → s ≤ m → (A s ↔ B s)) : gs_cnt A m = gs_cnt B m := by
  induction m with
  | zero => rfl
  | succ m ih =>
    have e := ih (fun s h1 h2 => h s h1 (by omega))
    have hm := h (m + 1) (by omega) (by omega)
    by_cases hA : A (m + 1)
    · rw [gs_cnt_t hA, gs_cnt_t (hm.mp hA), e]
    · rw [gs_cnt_f hA, gs_cnt_f (fun hB => hA (hm.mpr hB)), e]
theorem gs_cnt_rm {A B : Nat → Prop} {s : Nat} (hA : A s) (hB : ¬ B s) (h : ∀ j, j ≠ s → (A j ↔ B j)) {m : Nat} (h1 : 1 ≤ s) (h2 : s ≤ m) : gs_cnt B m + 1 = gs_cnt A m := by
  induction m with
  | zero => omega
  | succ m ih =>
    by_cases e : s = m + 1
    · subst e
      rw [gs_cnt_t hA, gs_cnt_f hB, gs_cnt_c (A := B) (B := A) (fun j _ hj => (h j (by omega)).symm)]
    · have ih := ih (by omega)
      have hm := h (m + 1) (by omega)
      by_cases c : A (m + 1)
      · rw [gs_cnt_t c, gs_cnt_t (hm.mp c)]; omega
      · rw [gs_cnt_f c, gs_cnt_f (fun hB => c (hm.mpr hB))]; omega
theorem gs_cnt_lt {A B : Nat → Prop} (hAB : ∀ s, A s → B s) {s : Nat} (hs : B s) (hn : ¬ A s) {m : Nat} (h1 : 1 ≤ s) (h2 : s ≤ m) : gs_cnt A m + 1 ≤ gs_cnt B m := by
  have e : gs_cnt (fun j => B j ∧ j ≠ s) m + 1 = gs_cnt B m := gs_cnt_rm (A := B) (B := fun j => B j ∧ j ≠ s) hs (fun h => h.2 rfl) (fun j hj => ⟨fun h => ⟨h, hj⟩, fun h => h.1⟩) h1 h2
  have l : gs_cnt A m ≤ gs_cnt (fun j => B j ∧ j ≠ s) m := gs_cnt_mono (fun j hj => ⟨hAB j hj, fun e => hn (e ▸ hj)⟩) m
  omega
theorem gs_cnt_full {A : Nat → Prop} {m : Nat} (h : m ≤ gs_cnt A m) : ∀ s, 1 ≤ s → s ≤ m → A s := by
  intro s h1 h2
  apply Classical.byContradiction
  intro hn
  have a := gs_cnt_lt (A := A) (B := fun _ => True) (fun _ _ => trivial) (s := s) trivial hn (m := m) h1 h2
  have b := gs_cnt_le (fun _ => True) m
  omega
theorem gs_cnt_none {A : Nat → Prop} {m : Nat} (h : gs_cnt A m = 0) : ∀ s, 1 ≤ s → s ≤ m → ¬ A s := by
  intro s h1 h2 hA
  have a := gs_cnt_lt (A := fun _ => False) (B := A) (fun _ h => h.elim) (s := s) hA (fun h => h) (m := m) h1 h2
  omega
/-! saturation by rounds: the bit rounds of the class, the marked rounds of the reference -/
def gs_Sat (S : Nat → Prop) (R : Nat → Nat → Prop) (b r : Nat) (A : Nat → Prop) : Prop :=
  (∀ s, S s → A s) ∧ (∀ s, A s → gs_L S R s) ∧ ((∀ s, gs_L S R s → A s) ∨ r ≤ gs_cnt A b)
theorem gs_sat0 (S : Nat → Prop) (R : Nat → Nat → Prop) (b : Nat) : gs_Sat S R b 0 S := ⟨fun _ h => h, fun _ h => gs_L_b h, Or.inr (Nat.zero_le _)⟩
theorem gs_satS {S : Nat → Prop} {R : Nat → Nat → Prop} {b r : Nat} {A A' : Nat → Prop} (hb : ∀ s, gs_L S R s → 1 ≤ s ∧ s ≤ b) (hA : gs_Sat S R b r A)
    (h1 : ∀ s, A s → A' s) (h2 : ∀ s, A' s → gs_L S R s) (h3 : ∀ t s, A t → R t s → A' s) : gs_Sat S R b (r + 1) A' := by
  refine ⟨fun s h => h1 s (hA.1 s h), h2, ?_⟩
  by_cases c : ∀ s, gs_L S R s → A s
  · exact Or.inl (fun s h => h1 s (c s h))
  · have hr := hA.2.2.resolve_left c
    have hx : ∃ s, A' s ∧ ¬ A s := by
      apply Classical.byContradiction
      intro hn
      apply c
      intro s hs
      exact gs_L_i hA.1 (fun t s ht hr => Classical.byContradiction fun h => hn ⟨s, h3 t s ht hr, h⟩) hs
    obtain ⟨s, h', hn⟩ := hx
    have hs := hb s (h2 s h')
    have hc := gs_cnt_lt h1 h' hn hs.1 hs.2
    exact Or.inr (by omega)
theorem gs_satE {S : Nat → Prop} {R : Nat → Nat → Prop} {b : Nat} {A : Nat → Prop} (hb : ∀ s, gs_L S R s → 1 ≤ s ∧ s ≤ b) (hA : gs_Sat S R b b A) (s : Nat) : A s ↔ gs_L S R s := by
  refine ⟨hA.2.1 s, fun h => ?_⟩
  cases hA.2.2 with
  | inl c => exact c s h
  | inr c => exact gs_cnt_full c s (hb s h).1 (hb s h).2
def gs_Mk (S : Nat → Prop) (R : Nat → Nat → Prop) (b r : Nat) (A : Nat → Prop) (ch : Prop) : Prop :=
  (∀ s, A s → gs_L S R s) ∧ ((¬ ch ∧ ∀ s, gs_L S R s → A s) ∨ (ch ∧ r ≤ gs_cnt A b))
theorem gs_mkS {S : Nat → Prop} {R : Nat → Nat → Prop} {b r : Nat} {A A' : Nat → Prop} {ch : Prop} (hb : ∀ s, gs_L S R s → 1 ≤ s ∧ s ≤ b) (hr : r ≤ gs_cnt A b)
    (h1 : ∀ s, A s → A' s) (h2 : ∀ s, A' s → gs_L S R s) (h3 : ch → ∃ s, A' s ∧ ¬ A s) (h4 : ¬ ch → (∀ s, S s → A' s) ∧ (∀ t s, A' t → R t s → A' s)) : gs_Mk S R b (r + 1) A' ch := by
  refine ⟨h2, ?_⟩
  by_cases c : ch
  · obtain ⟨s, h', hn⟩ := h3 c
    have hs := hb s (h2 s h')
    have hc := gs_cnt_lt h1 h' hn hs.1 hs.2
    exact Or.inr ⟨c, by omega⟩
  · exact Or.inl ⟨c, fun s hs => gs_L_i (h4 c).1 (h4 c).2 hs⟩
theorem gs_mkE {S : Nat → Prop} {R : Nat → Nat → Prop} {b r : Nat} {A : Nat → Prop} {ch : Prop} (hA : gs_Mk S R b r A ch) (h : ¬ ch ∨ b < r) (s : Nat) : A s ↔ gs_L S R s := by
  refine ⟨hA.1 s, fun hs => ?_⟩
  cases hA.2 with
  | inl c => exact c.2 s hs
  | inr c =>
    cases h with
    | inl h => exact absurd c.1 h
    | inr h => have := gs_cnt_le A b; omega
/-! paths -/
def gs_Pl (E : Nat → Nat → Prop) (a : Nat) : Nat → Prop := gs_L (E a) E
def gs_Bk (C : Nat → Prop) (E : Nat → Nat → Prop) : Nat → Prop := gs_L C (fun t s => E s t)
theorem gs_Pl_pre {E : Nat → Nat → Prop} {a c x : Nat} (h : E a c) (p : gs_Pl E c x) : gs_Pl E a x :=
  gs_L_i (A := gs_Pl E a) (fun _ he => gs_L_s (gs_L_b h) he) (fun _ _ ht hr => gs_L_s ht hr) p
theorem gs_Bk_pre {C : Nat → Prop} {E : Nat → Nat → Prop} {a x : Nat} (p : gs_Pl E a x) (h : gs_Bk C E x) : gs_Bk C E a := by
  have h0 : ∀ y, gs_Pl E a y → gs_Bk C E y → gs_Bk C E a := by
    intro y hy
    refine gs_L_i (A := fun y => gs_Bk C E y → gs_Bk C E a) ?_ ?_ hy
    · intro c hc hb
      exact gs_L_s hb hc
    · intro t s ht hr hb
      exact ht (gs_L_s hb hr)
  exact h0 x p h
theorem gs_Bk_Pl {E : Nat → Nat → Prop} {a u : Nat} : gs_Bk (fun s => E s u) E a ↔ gs_Pl E a u := by
  constructor
  · intro h
    exact gs_L_i (A := fun a => gs_Pl E a u) (fun c hc => gs_L_b hc) (fun t s ht hr => gs_Pl_pre hr ht) h
  · intro h
    have h0 : ∀ y, gs_Pl E a y → gs_Bk (fun s => E s y) E a := by
      intro y hy
      refine gs_L_i (A := fun y => gs_Bk (fun s => E s y) E a) (fun c hc => gs_L_b hc) ?_ hy
      intro t s ht hr
      exact gs_L_i (A := gs_Bk (fun z => E z s) E) (fun c hc => gs_L_s (gs_L_b (x := t) hr) hc) (fun _ _ h1 h2 => gs_L_s h1 h2) ht
    exact h0 u h
theorem gs_cyc {E E' : Nat → Nat → Prop} {C : Nat → Prop} {t : Nat} (hE : ∀ s u, E' s u ↔ E s u ∨ (u = t ∧ C s)) (ac : ∀ z, ¬ gs_Pl E z z) : gs_Pl E' t t ↔ gs_Bk C E t := by
  constructor
  · intro h
    have h0 : ∀ y, gs_Pl E' t y → gs_Pl E t y ∨ gs_Bk C E t := by
      intro y hy
      refine gs_L_i (A := fun y => gs_Pl E t y ∨ gs_Bk C E t) ?_ ?_ hy
      · intro c hc
        cases (hE t c).mp hc with
        | inl h => exact Or.inl (gs_L_b h)
        | inr h => exact Or.inr (gs_L_b h.2)
      · intro x y hx hr
        cases hx with
        | inr h => exact Or.inr h
        | inl h =>
          cases (hE x y).mp hr with
          | inl h' => exact Or.inl (gs_L_s h h')
          | inr h' => exact Or.inr (gs_Bk_pre h (gs_L_b h'.2))
    exact (h0 t h).resolve_left (ac t)
  · intro h
    exact gs_L_i (A := fun s => gs_Pl E' s t) (fun c hc => gs_L_b ((hE c t).mpr (Or.inr ⟨rfl, hc⟩))) (fun u s hu hr => gs_Pl_pre ((hE s u).mpr (Or.inl hr)) hu) h
theorem gs_acy {E E' : Nat → Nat → Prop} {C : Nat → Prop} {t : Nat} (hE : ∀ s u, E' s u ↔ E s u ∨ (u = t ∧ C s)) (ac : ∀ z, ¬ gs_Pl E z z) (hn : ¬ gs_Bk C E t) : ∀ z, ¬ gs_Pl E' z z := by
  intro z hz
  have h0 : ∀ y, gs_Pl E' z y → gs_Pl E z y ∨ (gs_Bk C E z ∧ (y = t ∨ gs_Pl E t y)) := by
    intro y hy
    refine gs_L_i (A := fun y => gs_Pl E z y ∨ (gs_Bk C E z ∧ (y = t ∨ gs_Pl E t y))) ?_ ?_ hy
    · intro c hc
      cases (hE z c).mp hc with
      | inl h => exact Or.inl (gs_L_b h)
      | inr h => exact Or.inr ⟨gs_L_b h.2, Or.inl h.1⟩
    · intro x y hx hr
      cases (hE x y).mp hr with
      | inr h' =>
        cases hx with
        | inl h => exact Or.inr ⟨gs_Bk_pre h (gs_L_b h'.2), Or.inl h'.1⟩
        | inr h => exact Or.inr ⟨h.1, Or.inl h'.1⟩
      | inl h' =>
        cases hx with
        | inl h => exact Or.inl (gs_L_s h h')
        | inr h =>
          refine Or.inr ⟨h.1, Or.inr ?_⟩
          cases h.2 with
          | inl e => rw [e] at h'; exact gs_L_b h'
          | inr p => exact gs_L_s p h'
  cases h0 z hz with
  | inl h => exact ac z h
  | inr h =>
    cases h.2 with
    | inl e => rw [e] at h; exact hn h.1
    | inr p => exact hn (gs_Bk_pre p h.1)
theorem gs_acm {E E' : Nat → Nat → Prop} (hE : ∀ s u, E' s u → E s u) (ac : ∀ z, ¬ gs_Pl E z z) : ∀ z, ¬ gs_Pl E' z z :=
  fun z h => ac z (gs_L_m (hE z) hE h)
end
section
/-! the log: T j its transaction, X j its item, K j its kind; st the states -/
def gs_Ed (T : Nat → Nat) (X K st : Nat → Int32) (i j : Nat) : Prop := T i ≠ T j ∧ X i = X j ∧ ¬ ((K i ||| K j) &&& 2 = 0) ∧ ¬ st (T i) = 5 ∧ ¬ st (T j) = 5
def gs_E (n : Nat) (T : Nat → Nat) (X K st : Nat → Int32) (s t : Nat) : Prop := ∃ i j, i < j ∧ j < n ∧ T i = s ∧ T j = t ∧ gs_Ed T X K st i j
def gs_Cf (n : Nat) (T : Nat → Nat) (X K st : Nat → Int32) (t : Nat) (x k : Int32) (s : Nat) : Prop := ∃ i, i < n ∧ T i = s ∧ T i ≠ t ∧ X i = x ∧ ¬ ((K i ||| k) &&& 2 = 0) ∧ ¬ st (T i) = 5
def gs_Lg (n b : Nat) (T : Nat → Nat) (X K : Nat → Int32) (lt li lk : Nat → Int32) : Prop := ∀ j, j < n → lt j = nI (T j) ∧ 1 ≤ T j ∧ T j ≤ b ∧ li j = X j ∧ lk j = K j
def gs_apN (T : Nat → Nat) (n t : Nat) : Nat → Nat := fun j => if j = n then t else T j
theorem gs_apN_s {T : Nat → Nat} {n t : Nat} : gs_apN T n t n = t := if_pos rfl
theorem gs_apN_n {T : Nat → Nat} {n t j : Nat} (h : j ≠ n) : gs_apN T n t j = T j := if_neg h
theorem gs_E_app {n : Nat} {T : Nat → Nat} {X K st : Nat → Int32} {t : Nat} {x k : Int32} (ht : ¬ st t = 5) (s u : Nat) :
    gs_E (n + 1) (gs_apN T n t) (upd X n x) (upd K n k) st s u ↔ gs_E n T X K st s u ∨ (u = t ∧ gs_Cf n T X K st t x k s) := by
  constructor
  · rintro ⟨i, j, hij, hj, rfl, rfl, he⟩
    have hi : i ≠ n := by omega
    unfold gs_Ed at he
    by_cases e : j = n
    · subst e
      rw [gs_apN_s, gs_apN_n hi, pk_us, pk_us, pk_un hi, pk_un hi] at he
      rw [gs_apN_s, gs_apN_n hi]
      exact Or.inr ⟨rfl, i, hij, rfl, he.1, he.2.1, he.2.2.1, he.2.2.2.1⟩
    · rw [gs_apN_n e, gs_apN_n hi, pk_un e, pk_un e, pk_un hi, pk_un hi] at he
      rw [gs_apN_n e, gs_apN_n hi]
      exact Or.inl ⟨i, j, hij, by omega, rfl, rfl, he⟩
  · rintro (⟨i, j, hij, hj, rfl, rfl, he⟩ | ⟨rfl, i, hi, rfl, h1, h2, h3, h4⟩)
    · have hi : i ≠ n := by omega
      have hj' : j ≠ n := by omega
      refine ⟨i, j, hij, by omega, gs_apN_n hi, gs_apN_n hj', ?_⟩
      unfold gs_Ed
      rw [gs_apN_n hj', gs_apN_n hi, pk_un hj', pk_un hj', pk_un hi, pk_un hi]
      exact he
    · have hi' : i ≠ n := by omega
      refine ⟨i, n, hi, by omega, gs_apN_n hi', gs_apN_s, ?_⟩
      unfold gs_Ed
      rw [gs_apN_s, gs_apN_n hi', pk_us, pk_us, pk_un hi', pk_un hi']
      exact ⟨h1, h2, h3, h4, ht⟩
theorem gs_E_c {n : Nat} {T : Nat → Nat} {X K st st' : Nat → Int32} (h : ∀ s, st s = 5 ↔ st' s = 5) (s t : Nat) : gs_E n T X K st s t ↔ gs_E n T X K st' s t := by
  unfold gs_E gs_Ed
  constructor
  · rintro ⟨i, j, a, b, c, d, e1, e2, e3, e4, e5⟩
    exact ⟨i, j, a, b, c, d, e1, e2, e3, fun z => e4 ((h _).mpr z), fun z => e5 ((h _).mpr z)⟩
  · rintro ⟨i, j, a, b, c, d, e1, e2, e3, e4, e5⟩
    exact ⟨i, j, a, b, c, d, e1, e2, e3, fun z => e4 ((h _).mp z), fun z => e5 ((h _).mp z)⟩
theorem gs_E_ab {n : Nat} {T : Nat → Nat} {X K st st' : Nat → Int32} {D : Nat → Prop} (h : ∀ s, st' s = 5 ↔ (st s = 5 ∨ D s)) (s t : Nat) : gs_E n T X K st' s t ↔ gs_E n T X K st s t ∧ ¬ D s ∧ ¬ D t := by
  unfold gs_E gs_Ed
  constructor
  · rintro ⟨i, j, a, b, rfl, rfl, e1, e2, e3, e4, e5⟩
    exact ⟨⟨i, j, a, b, rfl, rfl, e1, e2, e3, fun z => e4 ((h _).mpr (Or.inl z)), fun z => e5 ((h _).mpr (Or.inl z))⟩, fun z => e4 ((h _).mpr (Or.inr z)), fun z => e5 ((h _).mpr (Or.inr z))⟩
  · rintro ⟨⟨i, j, a, b, rfl, rfl, e1, e2, e3, e4, e5⟩, d1, d2⟩
    exact ⟨i, j, a, b, rfl, rfl, e1, e2, e3, fun z => ((h _).mp z).elim e4 d1, fun z => ((h _).mp z).elim e5 d2⟩
theorem gs_E_in {n b : Nat} {T : Nat → Nat} {X K st lt li lk : Nat → Int32} (hL : gs_Lg n b T X K lt li lk) {s t : Nat} (h : gs_E n T X K st s t) : (1 ≤ s ∧ s ≤ b) ∧ (1 ≤ t ∧ t ≤ b) ∧ ¬ st s = 5 ∧ ¬ st t = 5 := by
  obtain ⟨i, j, hij, hj, rfl, rfl, he⟩ := h
  have a := hL i (by omega)
  have c := hL j hj
  exact ⟨⟨a.2.1, a.2.2.1⟩, ⟨c.2.1, c.2.2.1⟩, he.2.2.2.1, he.2.2.2.2⟩
theorem gs_Cf_in {n b : Nat} {T : Nat → Nat} {X K st lt li lk : Nat → Int32} (hL : gs_Lg n b T X K lt li lk) {t : Nat} {x k : Int32} {s : Nat} (h : gs_Cf n T X K st t x k s) : 1 ≤ s ∧ s ≤ b := by
  obtain ⟨i, hi, rfl, _⟩ := h
  have a := hL i hi
  exact ⟨a.2.1, a.2.2.1⟩
/-! first of a kind -/
noncomputable def gs_fst (P : Nat → Prop) : Nat → Nat → Nat
  | 0, _ => 0
  | f + 1, i => @ite Nat (P i) (Classical.propDecidable _) i (gs_fst P f (i + 1))
theorem gs_fst_t {P : Nat → Prop} {f i : Nat} (h : P i) : gs_fst P (f + 1) i = i := by rw [gs_fst, if_pos h]
theorem gs_fst_f {P : Nat → Prop} {f i : Nat} (h : ¬ P i) : gs_fst P (f + 1) i = gs_fst P f (i + 1) := by rw [gs_fst, if_neg h]
theorem gs_fst_or (P : Nat → Prop) (f : Nat) : ∀ i, 1 ≤ i → (gs_fst P f i = 0 ∧ ∀ j, i ≤ j → j < i + f → ¬ P j) ∨ (i ≤ gs_fst P f i ∧ gs_fst P f i < i + f ∧ P (gs_fst P f i)) := by
  induction f with
  | zero => exact fun i _ => Or.inl ⟨rfl, fun j h1 h2 => absurd h2 (by omega)⟩
  | succ f ih =>
    intro i hi
    by_cases h : P i
    · rw [gs_fst_t h]
      exact Or.inr ⟨Nat.le_refl i, by omega, h⟩
    · rw [gs_fst_f h]
      cases ih (i + 1) (by omega) with
      | inl c =>
        refine Or.inl ⟨c.1, fun j h1 h2 => ?_⟩
        by_cases e : j = i
        · rw [e]; exact h
        · exact c.2 j (by omega) (by omega)
      | inr c => exact Or.inr ⟨by omega, by omega, c.2.2⟩
theorem gs_fst_c {P Q : Nat → Prop} (f : Nat) : ∀ i, (∀ j, i ≤ j → j < i + f → (P j ↔ Q j)) → gs_fst P f i = gs_fst Q f i := by
  induction f with
  | zero => exact fun _ _ => rfl
  | succ f ih =>
    intro i h
    have hi := h i (by omega) (by omega)
    by_cases c : P i
    · rw [gs_fst_t c, gs_fst_t (hi.mp c)]
    · rw [gs_fst_f c, gs_fst_f (fun q => c (hi.mpr q))]
      exact ih (i + 1) (fun j h1 h2 => h j (by omega) (by omega))
/-! states -/
def gs_un (s : Int32) : Prop := s = 1 ∨ s = 2
def gs_op (s : Int32) : Prop := s = 1 ∨ s = 2 ∨ s = 3
/-! settling: Rd st t, t is committed and has no open predecessor -/
def gs_Rd (E : Nat → Nat → Prop) (st : Nat → Int32) (t : Nat) : Prop := st t = 3 ∧ ∀ s, E s t → ¬ gs_op (st s)
noncomputable def gs_nx (b : Nat) (E : Nat → Nat → Prop) (st : Nat → Int32) : Nat := gs_fst (gs_Rd E st) b 1
noncomputable def gs_set (b : Nat) (E : Nat → Nat → Prop) : Nat → (Nat → Int32) → (Nat → Int32) → Nat → (Nat → Int32) × (Nat → Int32) × Nat
  | 0, st, so, c => (st, so, c)
  | f + 1, st, so, c => if gs_nx b E st = 0 then (st, so, c) else gs_set b E f (upd st (gs_nx b E st) 4) (upd so c (nI (gs_nx b E st))) (c + 1)
theorem gs_set_0 {b : Nat} {E : Nat → Nat → Prop} {f : Nat} {st so : Nat → Int32} {c : Nat} (h : gs_nx b E st = 0) : gs_set b E f st so c = (st, so, c) := by
  cases f with
  | zero => rfl
  | succ f => rw [gs_set, if_pos h]
theorem gs_set_s {b : Nat} {E : Nat → Nat → Prop} {f : Nat} {st so : Nat → Int32} {c : Nat} (h : ¬ gs_nx b E st = 0) :
    gs_set b E (f + 1) st so c = gs_set b E f (upd st (gs_nx b E st) 4) (upd so c (nI (gs_nx b E st))) (c + 1) := by rw [gs_set, if_neg h]
theorem gs_nx_or (b : Nat) (E : Nat → Nat → Prop) (st : Nat → Int32) : gs_nx b E st = 0 ∨ (1 ≤ gs_nx b E st ∧ gs_nx b E st ≤ b ∧ gs_Rd E st (gs_nx b E st)) := by
  cases gs_fst_or (gs_Rd E st) b 1 (Nat.le_refl 1) with
  | inl h => exact Or.inl h.1
  | inr h => exact Or.inr ⟨h.1, by have := h.2.1; unfold gs_nx; omega, h.2.2⟩
/-- settling aborts nothing, and its count stays within 64 -/
theorem gs_set_ab (b : Nat) (E : Nat → Nat → Prop) (f : Nat) : ∀ (st so : Nat → Int32) (c : Nat), (∀ s, (gs_set b E f st so c).1 s = 5 ↔ st s = 5) ∧ (gs_set b E f st so c).2.2 ≤ c + f := by
  induction f with
  | zero => exact fun st so c => ⟨fun s => Iff.rfl, Nat.le_refl c⟩
  | succ f ih =>
    intro st so c
    by_cases h : gs_nx b E st = 0
    · rw [gs_set_0 h]
      exact ⟨fun s => Iff.rfl, by show c ≤ c + (f + 1); omega⟩
    · rw [gs_set_s h]
      have i := ih (upd st (gs_nx b E st) 4) (upd so c (nI (gs_nx b E st))) (c + 1)
      refine ⟨fun s => (i.1 s).trans ?_, by have := i.2; omega⟩
      have r := ((gs_nx_or b E st).resolve_left h).2.2.1
      by_cases e : s = gs_nx b E st
      · rw [e, pk_us, r]
        decide
      · rw [pk_un e]
/-! committing waiters -/
def gs_Go (F : Nat → Nat → Prop) (st : Nat → Int32) (t : Nat) : Prop := st t = 2 ∧ ∀ w, F t w → ¬ gs_un (st w)
def gs_Cm (b : Nat) (F : Nat → Nat → Prop) (st : Nat → Int32) (x : Nat) : Prop :=
  ∀ A : Nat → Prop, (∀ t, 1 ≤ t → t ≤ b → st t = 2 → (∀ w, F t w → gs_un (st w) → A w) → A t) → A x
/-- on the way: st' is st with some of the waiters that may commit committed; c of them -/
def gs_Wy (b : Nat) (F : Nat → Nat → Prop) (st : Nat → Int32) (c : Nat) (st' : Nat → Int32) : Prop :=
  (∀ j, st' j = st j ∨ (st j = 2 ∧ 1 ≤ j ∧ j ≤ b ∧ gs_Cm b F st j ∧ st' j = 3)) ∧ c + gs_cnt (fun j => st' j = 2) b = gs_cnt (fun j => st j = 2) b
theorem gs_wy0 (b : Nat) (F : Nat → Nat → Prop) (st : Nat → Int32) : gs_Wy b F st 0 st := ⟨fun _ => Or.inl rfl, Nat.zero_add _⟩
theorem gs_wyS {b : Nat} {F : Nat → Nat → Prop} {st st' : Nat → Int32} {c t : Nat} (h : gs_Wy b F st c st') (h1 : 1 ≤ t) (h2 : t ≤ b) (hg : gs_Go F st' t) : gs_Wy b F st (c + 1) (upd st' t 3) := by
  have ht : st t = 2 := by
    cases h.1 t with
    | inl e => rw [← e]; exact hg.1
    | inr e => exact e.1
  have hc : gs_Cm b F st t := by
    intro A hA
    refine hA t h1 h2 ht (fun w hw hu => ?_)
    cases h.1 w with
    | inl e => exact absurd (e ▸ hu) (hg.2 w hw)
    | inr e => exact e.2.2.2.1 A hA
  constructor
  · intro j
    by_cases e : j = t
    · rw [e, pk_us]
      exact Or.inr ⟨ht, h1, h2, hc, rfl⟩
    · rw [pk_un e]
      exact h.1 j
  · have r : gs_cnt (fun j => upd st' t 3 j = 2) b + 1 = gs_cnt (fun j => st' j = 2) b := by
      refine gs_cnt_rm (s := t) hg.1 ?_ ?_ h1 h2
      · rw [pk_us]
        decide
      · intro j hj
        rw [pk_un hj]
    have := h.2
    omega
/-- at the end: nobody may commit any more; then the states and the count are fixed -/
theorem gs_wyE {b : Nat} {F : Nat → Nat → Prop} {st p q : Nat → Int32} {c d : Nat} (hp : gs_Wy b F st c p) (hq : gs_Wy b F st d q)
    (ep : ∀ t, 1 ≤ t → t ≤ b → ¬ gs_Go F p t) (eq : ∀ t, 1 ≤ t → t ≤ b → ¬ gs_Go F q t) : p = q ∧ c = d := by
  have all : ∀ (q : Nat → Int32) (d : Nat), gs_Wy b F st d q → (∀ t, 1 ≤ t → t ≤ b → ¬ gs_Go F q t) → ∀ j, gs_Cm b F st j → q j = 3 := by
    intro q d hq eq j hj
    refine hj (fun j => q j = 3) ?_
    intro t h1 h2 ht hw
    cases hq.1 t with
    | inr e => exact e.2.2.2.2
    | inl e =>
      refine absurd ⟨e.trans ht, fun w hF hu => ?_⟩ (eq t h1 h2)
      cases hq.1 w with
      | inl e' =>
        have h3 : q w = 3 := hw w hF (e' ▸ hu)
        rw [h3] at hu
        exact absurd hu (by unfold gs_un; decide)
      | inr e' =>
        rw [e'.2.2.2.2] at hu
        exact absurd hu (by unfold gs_un; decide)
  have e : p = q := by
    funext j
    cases hp.1 j with
    | inr a => rw [a.2.2.2.2, all q d hq eq j a.2.2.2.1]
    | inl a =>
      cases hq.1 j with
      | inl a' => rw [a, a']
      | inr a' => rw [all p c hp ep j a'.2.2.2.1, a'.2.2.2.2]
  subst e
  exact ⟨rfl, by have := hp.2; have := hq.2; omega⟩
theorem gs_wy_ab {b : Nat} {F : Nat → Nat → Prop} {st p : Nat → Int32} {c : Nat} (hp : gs_Wy b F st c p) (s : Nat) : p s = 5 ↔ st s = 5 := by
  cases hp.1 s with
  | inl e => rw [e]
  | inr e => rw [e.1, e.2.2.2.2]; decide
/-! aborting: the members of D among 1 .. u get state 5 -/
noncomputable def gs_abs (D : Nat → Prop) (st : Nat → Int32) (u : Nat) : Nat → Int32 := fun j => @ite Int32 (1 ≤ j ∧ j ≤ u ∧ D j) (Classical.propDecidable _) 5 (st j)
theorem gs_abs_t {D : Nat → Prop} {st : Nat → Int32} {u j : Nat} (h : 1 ≤ j ∧ j ≤ u ∧ D j) : gs_abs D st u j = 5 := by
  unfold gs_abs
  rw [if_pos h]
theorem gs_abs_f {D : Nat → Prop} {st : Nat → Int32} {u j : Nat} (h : ¬ (1 ≤ j ∧ j ≤ u ∧ D j)) : gs_abs D st u j = st j := by
  unfold gs_abs
  rw [if_neg h]
theorem gs_abs_0 (D : Nat → Prop) (st : Nat → Int32) : gs_abs D st 0 = st := funext fun j => gs_abs_f (fun h => by omega)
theorem gs_abs_s {D : Nat → Prop} {st : Nat → Int32} {u : Nat} (h : D (u + 1)) : upd (gs_abs D st u) (u + 1) 5 = gs_abs D st (u + 1) := by
  funext j
  by_cases e : j = u + 1
  · rw [e, pk_us, gs_abs_t ⟨by omega, by omega, h⟩]
  · rw [pk_un e]
    by_cases c : 1 ≤ j ∧ j ≤ u ∧ D j
    · rw [gs_abs_t c, gs_abs_t ⟨c.1, by omega, c.2.2⟩]
    · rw [gs_abs_f c, gs_abs_f (fun z => c ⟨z.1, by omega, z.2.2⟩)]
theorem gs_abs_n {D : Nat → Prop} {st : Nat → Int32} {u : Nat} (h : ¬ D (u + 1)) : gs_abs D st u = gs_abs D st (u + 1) := by
  funext j
  by_cases c : 1 ≤ j ∧ j ≤ u ∧ D j
  · rw [gs_abs_t c, gs_abs_t ⟨c.1, by omega, c.2.2⟩]
  · rw [gs_abs_f c, gs_abs_f (fun z => ?_)]
    by_cases e : j = u + 1
    · exact h (e ▸ z.2.2)
    · exact c ⟨z.1, by omega, z.2.2⟩
theorem gs_abs_5 {D : Nat → Prop} {st : Nat → Int32} {b : Nat} (hD : ∀ j, D j → 1 ≤ j ∧ j ≤ b) (s : Nat) : gs_abs D st b s = 5 ↔ (st s = 5 ∨ D s) := by
  by_cases c : D s
  · rw [gs_abs_t ⟨(hD s c).1, (hD s c).2, c⟩]
    exact ⟨fun _ => Or.inr c, fun _ => rfl⟩
  · rw [gs_abs_f (fun z => c z.2.2)]
    exact ⟨Or.inl, fun h => h.resolve_right c⟩
/-- the predecessors behind an abort, worked up to u -/
def gs_prA (D : Nat → Prop) (pr : Nat → Int64) (u : Nat) (p : Nat → Int64) : Prop :=
  (∀ j, j < 1 ∨ u < j → p j = pr j) ∧ ∀ j, 1 ≤ j → j ≤ u → ∀ s, gs_m (p j) s ↔ gs_m (pr j) s ∧ ¬ D s ∧ ¬ D j
theorem gs_prA_0 (D : Nat → Prop) (pr : Nat → Int64) : gs_prA D pr 0 pr := ⟨fun _ _ => rfl, fun j h1 h2 => absurd h2 (by omega)⟩
theorem gs_prA_s {D : Nat → Prop} {pr p : Nat → Int64} {u : Nat} (h : gs_prA D pr u p) {w : Int64} (hw : ∀ s, gs_m w s ↔ gs_m (pr (u + 1)) s ∧ ¬ D s ∧ ¬ D (u + 1)) : gs_prA D pr (u + 1) (vp_updL p (u + 1) w) := by
  constructor
  · intro j hj
    rw [pk_uLn (by omega)]
    exact h.1 j (by omega)
  · intro j h1 h2 s
    by_cases e : j = u + 1
    · subst e
      rw [pk_uLs]
      exact hw s
    · rw [pk_uLn e]
      exact h.2 j h1 (by omega) s
/-- the relation of the class's graph to the log -/
def gs_PE (pr : Nat → Int64) (E : Nat → Nat → Prop) : Prop := ∀ t, 1 ≤ t → t ≤ 64 → ∀ s, gs_m (pr t) s ↔ E s t
theorem gs_PE_ab {n b : Nat} {T : Nat → Nat} {X K st lt li lk : Nat → Int32} {pr p : Nat → Int64} {D : Nat → Prop} (hL : gs_Lg n b T X K lt li lk) (h : gs_PE pr (gs_E n T X K st))
    (hD : ∀ j, D j → 1 ≤ j ∧ j ≤ b) (hp : gs_prA D pr b p) : gs_PE p (gs_E n T X K (gs_abs D st b)) := by
  intro t h1 h2 s
  rw [gs_E_ab (gs_abs_5 hD) s t]
  by_cases c : t ≤ b
  · rw [hp.2 t h1 c s, h t h1 h2 s]
  · rw [hp.1 t (Or.inr (by omega)), h t h1 h2 s]
    constructor
    · intro e
      exact absurd (gs_E_in hL e).2.1.2 c
    · exact fun e => e.1
theorem gs_PE_c {pr : Nat → Int64} {E E' : Nat → Nat → Prop} (h : gs_PE pr E) (hE : ∀ s t, E s t ↔ E' s t) : gs_PE pr E' := fun t h1 h2 s => (h t h1 h2 s).trans (hE s t)
theorem gs_PE_app {n : Nat} {T : Nat → Nat} {X K st : Nat → Int32} {pr : Nat → Int64} {t : Nat} {x k : Int32} {w : Int64} (h : gs_PE pr (gs_E n T X K st)) (ht : ¬ st t = 5) (h1 : 1 ≤ t) (h2 : t ≤ 64)
    (hw : ∀ s, gs_m w s ↔ gs_Cf n T X K st t x k s) : gs_PE (vp_updL pr t (pr t ||| w)) (gs_E (n + 1) (gs_apN T n t) (upd X n x) (upd K n k) st) := by
  intro u u1 u2 s
  rw [gs_E_app ht s u]
  by_cases e : u = t
  · subst e
    rw [pk_uLs, gs_m_or, h u u1 u2 s, hw s]
    exact ⟨fun z => z.elim Or.inl (fun y => Or.inr ⟨rfl, y⟩), fun z => z.elim Or.inl (fun y => Or.inr y.2)⟩
  · rw [pk_uLn e, h u u1 u2 s]
    exact ⟨Or.inl, fun z => z.elim (fun y => y) (fun y => absurd y.1 e)⟩
theorem gs_Lg_app {n b : Nat} {T : Nat → Nat} {X K lt li lk : Nat → Int32} (hL : gs_Lg n b T X K lt li lk) {t : Nat} {x k : Int32} (h1 : 1 ≤ t) (h2 : t ≤ b) :
    gs_Lg (n + 1) b (gs_apN T n t) (upd X n x) (upd K n k) (upd lt n (nI t)) (upd li n x) (upd lk n k) := by
  intro j hj
  by_cases e : j = n
  · subst e
    rw [gs_apN_s, pk_us, pk_us, pk_us, pk_us, pk_us]
    exact ⟨rfl, h1, h2, rfl, rfl⟩
  · rw [gs_apN_n e, pk_un e, pk_un e, pk_un e, pk_un e, pk_un e]
    exact hL j (by omega)
theorem gs_Lg_keep {n b : Nat} {T : Nat → Nat} {X K lt li lk : Nat → Int32} (hL : gs_Lg n b T X K lt li lk) (a x k : Int32) : gs_Lg n b T X K (upd lt n a) (upd li n x) (upd lk n k) := by
  intro j hj
  have e : j ≠ n := by omega
  rw [pk_un e, pk_un e, pk_un e]
  exact hL j hj
theorem gs_Lg_b {n b : Nat} {T : Nat → Nat} {X K lt li lk : Nat → Int32} (hL : gs_Lg n b T X K lt li lk) : gs_Lg n (b + 1) T X K lt li lk :=
  fun j hj => ⟨(hL j hj).1, (hL j hj).2.1, Nat.le_succ_of_le (hL j hj).2.2.1, (hL j hj).2.2.2⟩
/-! facts of the reference: R f read what S f wrote -/
def gs_F (f : Nat) (R S : Nat → Nat) (t w : Nat) : Prop := ∃ i, i < f ∧ R i = t ∧ S i = w
def gs_Fc (f b : Nat) (R S : Nat → Nat) (rd sr : Nat → Int32) : Prop := ∀ j, j < f → rd j = nI (R j) ∧ sr j = nI (S j) ∧ (1 ≤ R j ∧ R j ≤ b) ∧ (1 ≤ S j ∧ S j ≤ b)
def gs_RF (rf : Nat → Int64) (F : Nat → Nat → Prop) : Prop := ∀ t, 1 ≤ t → t ≤ 64 → ∀ s, gs_m (rf t) s ↔ F t s
theorem gs_Fc_app {f b : Nat} {R S : Nat → Nat} {rd sr : Nat → Int32} (h : gs_Fc f b R S rd sr) {t w : Nat} (ht : 1 ≤ t ∧ t ≤ b) (hw : 1 ≤ w ∧ w ≤ b) :
    gs_Fc (f + 1) b (gs_apN R f t) (gs_apN S f w) (upd rd f (nI t)) (upd sr f (nI w)) := by
  intro j hj
  by_cases e : j = f
  · subst e
    rw [gs_apN_s, gs_apN_s, pk_us, pk_us]
    exact ⟨rfl, rfl, ht, hw⟩
  · rw [gs_apN_n e, gs_apN_n e, pk_un e, pk_un e]
    exact h j (by omega)
theorem gs_F_app {f : Nat} {R S : Nat → Nat} {t w : Nat} (a c : Nat) : gs_F (f + 1) (gs_apN R f t) (gs_apN S f w) a c ↔ gs_F f R S a c ∨ (a = t ∧ c = w) := by
  constructor
  · rintro ⟨i, hi, rfl, rfl⟩
    by_cases e : i = f
    · subst e
      rw [gs_apN_s, gs_apN_s]
      exact Or.inr ⟨rfl, rfl⟩
    · rw [gs_apN_n e, gs_apN_n e]
      exact Or.inl ⟨i, by omega, rfl, rfl⟩
  · rintro (⟨i, hi, rfl, rfl⟩ | ⟨rfl, rfl⟩)
    · have e : i ≠ f := by omega
      exact ⟨i, by omega, gs_apN_n e, gs_apN_n e⟩
    · exact ⟨f, by omega, gs_apN_s, gs_apN_s⟩
theorem gs_RF_app {f : Nat} {R S : Nat → Nat} {rf : Nat → Int64} {t w : Nat} {z : Int64} (h : gs_RF rf (gs_F f R S)) (hz : ∀ s, gs_m z s ↔ s = w) : gs_RF (vp_updL rf t (rf t ||| z)) (gs_F (f + 1) (gs_apN R f t) (gs_apN S f w)) := by
  intro u h1 h2 s
  rw [gs_F_app]
  by_cases e : u = t
  · subst e
    rw [pk_uLs, gs_m_or, h u h1 h2 s, hz s]
    exact ⟨fun c => c.elim Or.inl (fun y => Or.inr ⟨rfl, y⟩), fun c => c.elim Or.inl (fun y => Or.inr y.2)⟩
  · rw [pk_uLn e, h u h1 h2 s]
    exact ⟨Or.inl, fun c => c.elim (fun y => y) (fun y => absurd y.1 e)⟩
theorem gs_Fc_b {f b : Nat} {R S : Nat → Nat} {rd sr : Nat → Int32} (h : gs_Fc f b R S rd sr) : gs_Fc f (b + 1) R S rd sr :=
  fun j hj => ⟨(h j hj).1, (h j hj).2.1, ⟨(h j hj).2.2.1.1, Nat.le_succ_of_le (h j hj).2.2.1.2⟩, ⟨(h j hj).2.2.2.1, Nat.le_succ_of_le (h j hj).2.2.2.2⟩⟩
/-! the last of a kind, one more than its place; 0 if there is none -/
noncomputable def gs_lst (P : Nat → Prop) : Nat → Nat
  | 0 => 0
  | m + 1 => @ite Nat (P m) (Classical.propDecidable _) (m + 1) (gs_lst P m)
theorem gs_lst_t {P : Nat → Prop} {m : Nat} (h : P m) : gs_lst P (m + 1) = m + 1 := by rw [gs_lst, if_pos h]
theorem gs_lst_f {P : Nat → Prop} {m : Nat} (h : ¬ P m) : gs_lst P (m + 1) = gs_lst P m := by rw [gs_lst, if_neg h]
theorem gs_lst_in {P : Nat → Prop} {m i : Nat} (h : gs_lst P m = i + 1) : i < m ∧ P i := by
  induction m with
  | zero => exact absurd h (by rw [gs_lst]; omega)
  | succ m ih =>
    by_cases c : P m
    · rw [gs_lst_t c] at h
      obtain rfl : m = i := by omega
      exact ⟨by omega, c⟩
    · rw [gs_lst_f c] at h
      exact ⟨by have := (ih h).1; omega, (ih h).2⟩
theorem gs_lst_c {P Q : Nat → Prop} {m : Nat} (h : ∀ j, j < m → (P j ↔ Q j)) : gs_lst P m = gs_lst Q m := by
  induction m with
  | zero => rfl
  | succ m ih =>
    have e := ih (fun j hj => h j (by omega))
    by_cases c : P m
    · rw [gs_lst_t c, gs_lst_t ((h m (by omega)).mp c)]
    · rw [gs_lst_f c, gs_lst_f (fun q => c ((h m (by omega)).mpr q)), e]
/-- a transaction's number -/
theorem gs_tc (t : Int32) {b : Nat} (hb : b ≤ 64) : (∃ j, 1 ≤ j ∧ j ≤ b ∧ t = nI j) ∨ t < 1 ∨ (¬ t < 1 ∧ ¬ t ≤ nI b) := by
  by_cases h1 : t < 1
  · exact Or.inr (Or.inl h1)
  · have h0 : ¬ t < 0 := fun h => h1 (Int32.lt_trans h (by decide))
    obtain ⟨j, hj, rfl⟩ := nI_of h0
    by_cases h2 : j ≤ b
    · refine Or.inl ⟨j, ?_, h2, rfl⟩
      apply Classical.byContradiction
      intro h
      obtain rfl : j = 0 := by omega
      exact h1 (by decide)
    · exact Or.inr (Or.inr ⟨h1, fun h => h2 ((nI_leI hj (by omega)).mp h)⟩)
end
section
/-! the class: single transactions, sets of them, closures -/
section
variable {sl it : Int32} {b n c : Nat} {st : Nat → Int32} {pr rf : Nat → Int64} {lt li lk lv so : Nat → Int32}
theorem xo_isOpen {post : Int32 → Prop} {t : Nat} (ht : t ≤ 64) (h1 : gs_op (st t) → post 1) (h0 : ¬ gs_op (st t) → post 0) : wpX_isOpen post (sl, it, nI b, nI n, nI c, st, pr, rf, lt, li, lk, lv, so) (nI t) := by
  have hi : vp_in (nI t) 65 := vp_in_nI (by omega) (by omega)
  have hc : (nI t).toNatClampNeg = t := nI_clamp (by omega)
  unfold wpX_isOpen
  dsimp only
  rw [hc]
  exact ⟨hi, br_c (fun a => h1 (Or.inl a)) (fun a => ⟨hi, br_c (fun b => h1 (Or.inr (Or.inl b))) (fun b => ⟨hi, br_c (fun d => h1 (Or.inr (Or.inr d))) (fun d => h0 (fun z => z.elim a (fun z => z.elim b d)))⟩)⟩)⟩
theorem xo_isUnf {post : Int32 → Prop} {t : Nat} (ht : t ≤ 64) (h1 : gs_un (st t) → post 1) (h0 : ¬ gs_un (st t) → post 0) : wpX_isUnfinished post (sl, it, nI b, nI n, nI c, st, pr, rf, lt, li, lk, lv, so) (nI t) := by
  have hi : vp_in (nI t) 65 := vp_in_nI (by omega) (by omega)
  have hc : (nI t).toNatClampNeg = t := nI_clamp (by omega)
  unfold wpX_isUnfinished
  dsimp only
  rw [hc]
  exact ⟨hi, br_c (fun a => h1 (Or.inl a)) (fun a => ⟨hi, br_c (fun b => h1 (Or.inr b)) (fun b => h0 (fun z => z.elim a b))⟩)⟩
theorem xo_bit {post : Int64 → Prop} {t : Nat} (h1 : 1 ≤ t) (h2 : t ≤ 64) (hp : post (gs_bit t)) : wpX_bit post (nI t) := by
  unfold wpX_bit
  rw [gs_bit_e h1 h2]
  exact hp
theorem xo_has {post : Int32 → Prop} {w : Int64} {t : Nat} (h1 : 1 ≤ t) (h2 : t ≤ 64) (p1 : gs_m w t → post 1) (p0 : ¬ gs_m w t → post 0) : wpX_contains post w (nI t) := by
  unfold wpX_contains
  exact xo_bit h1 h2 (br_c (fun z => p0 ((gs_has h1 h2).mp z)) (fun z => p1 (Classical.byContradiction fun y => z ((gs_has h1 h2).mpr y))))
theorem xo_begun1 {post : Int32 → Prop} {t : Nat} (h1 : 1 ≤ t) (h2 : t ≤ b) (hb : b ≤ 64) (hp : post 1) : wpX_isBegun post (sl, it, nI b, nI n, nI c, st, pr, rf, lt, li, lk, lv, so) (nI t) :=
  br_f (fun h => by have := (nI_ltI (b := 1) (by omega) (by omega)).mp h; omega) (br_f (fun h => by have := (nI_ltI (by omega) (by omega)).mp h; omega) hp)
theorem xo_begun0 {post : Int32 → Prop} {t : Int32} (h : t < 1 ∨ (¬ t < 1 ∧ ¬ t ≤ nI b)) (hp : post 0) : wpX_isBegun post (sl, it, nI b, nI n, nI c, st, pr, rf, lt, li, lk, lv, so) t := by
  cases h with
  | inl h => exact br_t h hp
  | inr h => exact br_f h.1 (br_t (Int32.not_le.mp h.2) hp)
theorem xo_item1 {post : Int32 → Prop} {x : Int32} (h0 : ¬ x < 0) (h1 : x < it) (hp : post 1) : wpX_isItem post (sl, it, nI b, nI n, nI c, st, pr, rf, lt, li, lk, lv, so) x :=
  br_f h0 (br_f (Int32.not_le.mpr h1) hp)
theorem xo_item0 {post : Int32 → Prop} {x : Int32} (h : x < 0 ∨ ¬ x < it) (hp : post 0) : wpX_isItem post (sl, it, nI b, nI n, nI c, st, pr, rf, lt, li, lk, lv, so) x := by
  by_cases h0 : x < 0
  · exact br_t h0 hp
  · exact br_f h0 (br_t (Int32.not_lt.mp (h.resolve_left h0)) hp)
theorem xo_countOpen {post : Int32 → Prop} (hb : b ≤ 64) (hp : post (nI (gs_cnt (fun t => gs_op (st t)) b))) : wpX_countOpen post (sl, it, nI b, nI n, nI c, st, pr, rf, lt, li, lk, lv, so) := by
  unfold wpX_countOpen
  dsimp only
  refine pk_loop (σ := Nat) (fun m i s => wX_countOpen_4 post sl it (nI b) (nI n) (nI c) st pr rf lt li lk lv so m (nI s) (nI (i + 1))) (fun i s => s = gs_cnt (fun t => gs_op (st t)) i) b 0 0 (Nat.zero_le b) rfl ?_ ?_
  · intro m s hs
    subst hs
    exact pk_lt b (b + 1) (fun _ => hp) (fun h => absurd h (by omega))
  · intro m i s hi hs k
    refine pk_lt b (i + 1) (fun h => absurd h (by omega)) (fun _ => ?_)
    refine xo_isOpen (by omega) (fun h => ?_) (fun h => ?_)
    · exact br_f (by decide) (nm_r (nI_1 s) (nm_r (nI_1 (i + 1)) (k (s + 1) (by rw [hs, gs_cnt_t h]))))
    · exact br_t rfl (nm_r (nI_1 (i + 1)) (k s (by rw [hs, gs_cnt_f h])))
theorem xo_add1 {P : Nat → Prop} {s : Int64} {i : Nat} (hs : ∀ t, gs_m s t ↔ (1 ≤ t ∧ t ≤ i) ∧ P t) (hi : i + 1 ≤ 64) (h : P (i + 1)) (t : Nat) : gs_m (s ||| gs_bit (i + 1)) t ↔ (1 ≤ t ∧ t ≤ i + 1) ∧ P t := by
  rw [gs_m_or, hs t, gs_m_bit (by omega) hi]
  constructor
  · rintro (⟨h1, h2⟩ | rfl)
    · exact ⟨⟨h1.1, by omega⟩, h2⟩
    · exact ⟨⟨by omega, by omega⟩, h⟩
  · rintro ⟨h1, h2⟩
    by_cases e : t = i + 1
    · exact Or.inr e
    · exact Or.inl ⟨⟨h1.1, by omega⟩, h2⟩
theorem xo_add0 {P : Nat → Prop} {s : Int64} {i : Nat} (hs : ∀ t, gs_m s t ↔ (1 ≤ t ∧ t ≤ i) ∧ P t) (h : ¬ P (i + 1)) (t : Nat) : gs_m s t ↔ (1 ≤ t ∧ t ≤ i + 1) ∧ P t := by
  rw [hs t]
  constructor
  · rintro ⟨h1, h2⟩
    exact ⟨⟨h1.1, by omega⟩, h2⟩
  · rintro ⟨h1, h2⟩
    refine ⟨⟨h1.1, ?_⟩, h2⟩
    by_cases e : t = i + 1
    · rw [e] at h2
      exact absurd h2 h
    · omega
theorem xo_unfSet {post : Int64 → Prop} (hb : b ≤ 64) (hp : ∀ w, (∀ t, gs_m w t ↔ (1 ≤ t ∧ t ≤ b) ∧ gs_un (st t)) → post w) : wpX_unfinishedSet post (sl, it, nI b, nI n, nI c, st, pr, rf, lt, li, lk, lv, so) := by
  unfold wpX_unfinishedSet
  dsimp only
  refine pk_loop (σ := Int64) (fun m i s => wX_unfinishedSet_4 post sl it (nI b) (nI n) (nI c) st pr rf lt li lk lv so m s (nI (i + 1))) (fun i s => ∀ t, gs_m s t ↔ (1 ≤ t ∧ t ≤ i) ∧ gs_un (st t)) b 0 0 (Nat.zero_le b) ?_ ?_ ?_
  · exact fun t => ⟨fun h => absurd h (gs_m_0 t), fun h => absurd h.1 (by omega)⟩
  · intro m s hs
    exact pk_lt b (b + 1) (fun _ => hp s hs) (fun h => absurd h (by omega))
  · intro m i s hi hs k
    refine pk_lt b (i + 1) (fun h => absurd h (by omega)) (fun _ => ?_)
    refine xo_isUnf (by omega) (fun h => ?_) (fun h => ?_)
    · exact br_f (by decide) (xo_bit (by omega) (by omega) (nm_e (nm_r (nI_1 (i + 1)) (k _ (xo_add1 hs (by omega) h)))))
    · exact br_t rfl (nm_r (nI_1 (i + 1)) (k s (xo_add0 hs h)))
theorem xo_openSet {post : Int64 → Prop} (hb : b ≤ 64) (hp : ∀ w, (∀ t, gs_m w t ↔ (1 ≤ t ∧ t ≤ b) ∧ gs_op (st t)) → post w) : wpX_openSet post (sl, it, nI b, nI n, nI c, st, pr, rf, lt, li, lk, lv, so) := by
  unfold wpX_openSet
  dsimp only
  refine pk_loop (σ := Int64) (fun m i s => wX_openSet_4 post sl it (nI b) (nI n) (nI c) st pr rf lt li lk lv so m s (nI (i + 1))) (fun i s => ∀ t, gs_m s t ↔ (1 ≤ t ∧ t ≤ i) ∧ gs_op (st t)) b 0 0 (Nat.zero_le b) ?_ ?_ ?_
  · exact fun t => ⟨fun h => absurd h (gs_m_0 t), fun h => absurd h.1 (by omega)⟩
  · intro m s hs
    exact pk_lt b (b + 1) (fun _ => hp s hs) (fun h => absurd h (by omega))
  · intro m i s hi hs k
    refine pk_lt b (i + 1) (fun h => absurd h (by omega)) (fun _ => ?_)
    refine xo_isOpen (by omega) (fun h => ?_) (fun h => ?_)
    · exact br_f (by decide) (xo_bit (by omega) (by omega) (nm_e (nm_r (nI_1 (i + 1)) (k _ (xo_add1 hs (by omega) h)))))
    · exact br_t rfl (nm_r (nI_1 (i + 1)) (k s (xo_add0 hs h)))
theorem xo_withAnc {post : Int64 → Prop} {E : Nat → Nat → Prop} {w : Int64} (hb : b ≤ 64) (hE : gs_PE pr E) (hEb : ∀ s t, E s t → (1 ≤ s ∧ s ≤ b) ∧ (1 ≤ t ∧ t ≤ b)) (hS : ∀ s, gs_m w s → 1 ≤ s ∧ s ≤ b)
    (hp : ∀ w', (∀ s, gs_m w' s ↔ gs_Bk (gs_m w) E s) → post w') : wpX_withAncestors post (sl, it, nI b, nI n, nI c, st, pr, rf, lt, li, lk, lv, so) w := by
  have hL : ∀ s, gs_L (gs_m w) (fun t s => E s t) s → 1 ≤ s ∧ s ≤ b := fun s h => gs_L_i (A := fun s => 1 ≤ s ∧ s ≤ b) hS (fun t s _ hr => (hEb s t hr).1) h
  unfold wpX_withAncestors
  dsimp only
  refine pk_loop (σ := Int64) (fun m r s => wX_withAncestors_5 post sl it (nI b) (nI n) (nI c) st pr rf lt li lk lv so m s (nI r)) (fun r s => gs_Sat (gs_m w) (fun t s => E s t) b r (gs_m s)) b 0 w (Nat.zero_le b) (gs_sat0 _ _ b) ?_ ?_
  · intro m s hs
    exact pk_le b b (fun _ => hp s (gs_satE hL hs)) (fun h => absurd h (by omega))
  · intro m r s hr hs k
    refine pk_le b r (fun h => absurd h (by omega)) (fun _ => ?_)
    refine pk_loop (σ := Int64) (fun q i a => wX_withAncestors_17 post (wX_withAncestors_5 post sl it (nI b) (nI n) (nI c) st pr rf lt li lk lv so m) (nI r) sl it (nI b) (nI n) (nI c) st pr rf lt li lk lv so q a (nI (i + 1)))
      (fun i a => (∀ x, gs_m s x → gs_m a x) ∧ (∀ x, gs_m a x → gs_L (gs_m w) (fun t s => E s t) x) ∧ (∀ t x, 1 ≤ t → t ≤ i → gs_m s t → E x t → gs_m a x)) b 0 s (Nat.zero_le b) ?_ ?_ ?_
    · exact ⟨fun _ h => h, hs.2.1, fun t x h1 h2 => absurd h2 (by omega)⟩
    · intro q a ha
      exact pk_lt b (b + 1) (fun _ => nm_r (nI_1 r) (k a (gs_satS hL hs ha.1 ha.2.1 (fun t x ht hx => ha.2.2 t x (hEb x t hx).2.1 (hEb x t hx).2.2 ht hx)))) (fun h => absurd h (by omega))
    · intro q i a hi ha k'
      refine pk_lt b (i + 1) (fun h => absurd h (by omega)) (fun _ => ?_)
      refine xo_has (by omega) (by omega) (fun h => ?_) (fun h => ?_)
      · refine br_f (by decide) ⟨vp_in_nI (by omega) (by omega), nm_r (e' := a ||| pr (i + 1)) (by rw [nI_clamp (by omega)]) (nm_r (nI_1 (i + 1)) (k' _ ⟨?_, ?_, ?_⟩))⟩
        · exact fun x hx => (gs_m_or _ _ x).mpr (Or.inl (ha.1 x hx))
        · intro x hx
          cases (gs_m_or _ _ x).mp hx with
          | inl z => exact ha.2.1 x z
          | inr z => exact gs_L_s (ha.2.1 _ h) ((hE (i + 1) (by omega) (by omega) x).mp z)
        · intro t x h1 h2 ht hx
          by_cases e : t = i + 1
          · subst e
            exact (gs_m_or _ _ x).mpr (Or.inr ((hE _ (by omega) (by omega) x).mpr hx))
          · exact (gs_m_or _ _ x).mpr (Or.inl (ha.2.2 t x h1 (by omega) ht hx))
      · refine br_t rfl (nm_r (nI_1 (i + 1)) (k' a ⟨ha.1, ha.2.1, ?_⟩))
        intro t x h1 h2 ht hx
        by_cases e : t = i + 1
        · subst e
          exact absurd (ha.1 _ ht) h
        · exact ha.2.2 t x h1 (by omega) ht hx
/-- who is aborted with t -/
def gs_Dm (b : Nat) (F : Nat → Nat → Prop) (st : Nat → Int32) (t : Nat) : Nat → Prop := gs_L (fun s => s = t) (fun w u => (1 ≤ u ∧ u ≤ b) ∧ gs_un (st u) ∧ F u w)
theorem gs_Dm_in {b : Nat} {F : Nat → Nat → Prop} {st : Nat → Int32} {t : Nat} (h1 : 1 ≤ t) (h2 : t ≤ b) (s : Nat) (h : gs_Dm b F st t s) : 1 ≤ s ∧ s ≤ b :=
  gs_L_i (A := fun s => 1 ≤ s ∧ s ≤ b) (fun c e => by rw [e]; exact ⟨h1, h2⟩) (fun _ _ _ hr => hr.1) h
theorem xo_withRd {post : Int64 → Prop} {F : Nat → Nat → Prop} {t : Nat} (hb : b ≤ 64) (hF : gs_RF rf F) (h1 : 1 ≤ t) (h2 : t ≤ b)
    (hp : ∀ w', (∀ s, gs_m w' s ↔ gs_Dm b F st t s) → post w') : wpX_withReaders post (sl, it, nI b, nI n, nI c, st, pr, rf, lt, li, lk, lv, so) (nI t) := by
  have hL := gs_Dm_in (F := F) (st := st) h1 h2
  unfold gs_Dm at hL
  unfold wpX_withReaders
  dsimp only
  refine xo_bit h1 (by omega) ?_
  refine pk_loop (σ := Int64) (fun m r s => wX_withReaders_8 post sl it (nI b) (nI n) (nI c) st pr rf lt li lk lv so m s (nI r)) (fun r s => gs_Sat (fun s => s = t) (fun w u => (1 ≤ u ∧ u ≤ b) ∧ gs_un (st u) ∧ F u w) b r (gs_m s)) b 0 (gs_bit t) (Nat.zero_le b) ?_ ?_ ?_
  · exact ⟨fun s e => (gs_m_bit h1 (by omega) s).mpr e, fun s h => gs_L_b ((gs_m_bit h1 (by omega) s).mp h), Or.inr (Nat.zero_le _)⟩
  · intro m s hs
    exact pk_le b b (fun _ => hp s (gs_satE hL hs)) (fun h => absurd h (by omega))
  · intro m r s hr hs k
    refine pk_le b r (fun h => absurd h (by omega)) (fun _ => ?_)
    refine pk_loop (σ := Int64) (fun q i a => wX_withReaders_20 post (wX_withReaders_8 post sl it (nI b) (nI n) (nI c) st pr rf lt li lk lv so m) (nI r) sl it (nI b) (nI n) (nI c) st pr rf lt li lk lv so q a (nI (i + 1)))
      (fun i a => (∀ x, gs_m s x → gs_m a x) ∧ (∀ x, gs_m a x → gs_L (fun s => s = t) (fun w u => (1 ≤ u ∧ u ≤ b) ∧ gs_un (st u) ∧ F u w) x) ∧ (∀ w u, 1 ≤ u → u ≤ i → gs_m s w → gs_un (st u) → F u w → gs_m a u)) b 0 s (Nat.zero_le b) ?_ ?_ ?_
    · exact ⟨fun _ h => h, hs.2.1, fun w u a1 a2 => absurd a2 (by omega)⟩
    · intro q a ha
      exact pk_lt b (b + 1) (fun _ => nm_r (nI_1 r) (k a (gs_satS hL hs ha.1 ha.2.1 (fun w u hw hu => ha.2.2 w u hu.1.1 hu.1.2 hw hu.2.1 hu.2.2)))) (fun h => absurd h (by omega))
    · intro q i a hi ha k'
      refine pk_lt b (i + 1) (fun h => absurd h (by omega)) (fun _ => ?_)
      have hcl : (nI (i + 1)).toNatClampNeg = i + 1 := nI_clamp (by omega)
      refine xo_isUnf (by omega) (fun h => ?_) (fun h => ?_)
      · refine br_f (by decide) ⟨vp_in_nI (by omega) (by omega), ?_⟩
        rw [hcl]
        refine br_c (fun z => ?_) (fun z => ?_)
        · rw [gs_and0] at z
          refine nm_r (nI_1 (i + 1)) (k' a ⟨ha.1, ha.2.1, ?_⟩)
          intro w u u1 u2 hw hu hf
          by_cases e : u = i + 1
          · subst e
            exact absurd (ha.1 w hw) (z w ((hF _ (by omega) (by omega) w).mpr hf))
          · exact ha.2.2 w u u1 (by omega) hw hu hf
        · rw [gs_and0] at z
          have hx : ∃ w, gs_m (rf (i + 1)) w ∧ gs_m a w := Classical.byContradiction fun y => z (fun w w1 w2 => y ⟨w, w1, w2⟩)
          obtain ⟨w, w1, w2⟩ := hx
          refine xo_bit (by omega) (by omega) (nm_e (nm_r (nI_1 (i + 1)) (k' _ ⟨?_, ?_, ?_⟩)))
          · exact fun x hx => (gs_m_or _ _ x).mpr (Or.inl (ha.1 x hx))
          · intro x hx
            cases (gs_m_or _ _ x).mp hx with
            | inl y => exact ha.2.1 x y
            | inr y =>
              rw [(gs_m_bit (by omega) (by omega) x).mp y]
              exact gs_L_s (ha.2.1 w w2) ⟨⟨by omega, by omega⟩, h, (hF _ (by omega) (by omega) w).mp w1⟩
          · intro v u u1 u2 hv hu hf
            by_cases e : u = i + 1
            · exact (gs_m_or _ _ u).mpr (Or.inr ((gs_m_bit (by omega) (by omega) u).mpr e))
            · exact (gs_m_or _ _ u).mpr (Or.inl (ha.2.2 v u u1 (by omega) hv hu hf))
      · refine br_t rfl (nm_r (nI_1 (i + 1)) (k' a ⟨ha.1, ha.2.1, ?_⟩))
        intro w u u1 u2 hw hu hf
        by_cases e : u = i + 1
        · subst e
          exact absurd hu h
        · exact ha.2.2 w u u1 (by omega) hw hu hf
end
end
section
/-! the class: settling, aborting, committing -/
section
variable {sl it : Int32} {b n c : Nat} {st : Nat → Int32} {pr rf : Nat → Int64} {lt li lk lv so : Nat → Int32}
theorem xo_firstSet {post : Int32 → Prop} {E : Nat → Nat → Prop} (hb : b ≤ 64) (hE : gs_PE pr E) (hEb : ∀ s t, E s t → (1 ≤ s ∧ s ≤ b) ∧ (1 ≤ t ∧ t ≤ b)) (hp : post (nI (gs_nx b E st))) : wpX_firstSettleable post (sl, it, nI b, nI n, nI c, st, pr, rf, lt, li, lk, lv, so) := by
  unfold wpX_firstSettleable
  dsimp only
  refine xo_openSet hb (fun w hw => ?_)
  refine pk_loop (σ := Unit) (fun m i _ => wX_firstSettleable_7 post w sl it (nI b) (nI n) (nI c) st pr rf lt li lk lv so m (nI (i + 1))) (fun i _ => gs_fst (gs_Rd E st) (b - i) (i + 1) = gs_nx b E st) b 0 () (Nat.zero_le b) rfl ?_ ?_
  · intro m _ hs
    refine pk_lt b (b + 1) (fun _ => ?_) (fun h => absurd h (by omega))
    rw [Nat.sub_self] at hs
    rw [← hs] at hp
    exact hp
  · intro m i _ hi hs k
    refine pk_lt b (i + 1) (fun h => absurd h (by omega)) (fun _ => ?_)
    have hcl : (nI (i + 1)).toNatClampNeg = i + 1 := nI_clamp (by omega)
    have hin : vp_in (nI (i + 1)) 65 := vp_in_nI (by omega) (by omega)
    rw [show b - i = (b - (i + 1)) + 1 by omega] at hs
    refine ⟨hin, ?_⟩
    rw [hcl]
    refine br_c (fun h3 => ⟨hin, ?_⟩) (fun h3 => ?_)
    · refine br_c (fun z => ?_) (fun z => ?_)
      · rw [gs_and0] at z
        have hr : gs_Rd E st (i + 1) := ⟨h3, fun s hs ho => z s ((hE _ (by omega) (by omega) s).mpr hs) ((hw s).mpr ⟨(hEb s _ hs).1, ho⟩)⟩
        rw [gs_fst_t hr] at hs
        rw [← hs] at hp
        exact hp
      · rw [gs_and0] at z
        have hr : ¬ gs_Rd E st (i + 1) := fun r => z (fun s s1 s2 => r.2 s ((hE _ (by omega) (by omega) s).mp s1) ((hw s).mp s2).2)
        rw [gs_fst_f hr] at hs
        exact nm_r (nI_1 (i + 1)) (k () hs)
    · have hr : ¬ gs_Rd E st (i + 1) := fun r => h3 r.1
      rw [gs_fst_f hr] at hs
      exact nm_r (nI_1 (i + 1)) (k () hs)
end
section
variable {sl it : Int32} {b n : Nat} {pr rf : Nat → Int64} {lt li lk lv : Nat → Int32}
theorem xo_settleW {post : SX → Prop} {E : Nat → Nat → Prop} (hb : b ≤ 64) (hE : gs_PE pr E) (hEb : ∀ s t, E s t → (1 ≤ s ∧ s ≤ b) ∧ (1 ≤ t ∧ t ≤ b)) (d : Nat) : ∀ (c : Nat) (st so : Nat → Int32), c + d = 64 →
    post (sl, it, nI b, nI n, nI ((gs_set b E d st so c).2.2), (gs_set b E d st so c).1, pr, rf, lt, li, lk, lv, (gs_set b E d st so c).2.1) → wX_settle_5 post sl it (nI b) (nI n) (d + 1) (nI c) (nI c) st pr rf lt li lk lv so := by
  induction d with
  | zero =>
    intro c st so hc hp
    exact pk_le 64 c (fun _ => hp) (fun h => absurd h (by omega))
  | succ d ih =>
    intro c st so hc hp
    refine pk_le 64 c (fun h => absurd h (by omega)) (fun _ => ?_)
    refine xo_firstSet hb hE hEb ?_
    by_cases e : gs_nx b E st = 0
    · rw [gs_set_0 e] at hp
      rw [e]
      exact br_t rfl hp
    · have h := (gs_nx_or b E st).resolve_left e
      rw [gs_set_s e] at hp
      have hcl : (nI (gs_nx b E st)).toNatClampNeg = gs_nx b E st := nI_clamp (by omega)
      have hcc : (nI c).toNatClampNeg = c := nI_clamp (by omega)
      refine br_f (nI_ne0 (by omega) (by omega)) ⟨vp_in_nI (by omega) (by omega), nm_r (e' := upd st (gs_nx b E st) 4) (by rw [hcl]) ⟨vp_in_nI (by omega) (by omega), nm_r (e' := upd so c (nI (gs_nx b E st))) (by rw [hcc]) (nm_r (nI_1 c) (nm_r (nI_1 c) ?_))⟩⟩
      exact ih (c + 1) _ _ (by omega) hp
theorem xo_settle {post : SX → Prop} {E : Nat → Nat → Prop} {c : Nat} {st so : Nat → Int32} (hb : b ≤ 64) (hc : c ≤ 64) (hE : gs_PE pr E) (hEb : ∀ s t, E s t → (1 ≤ s ∧ s ≤ b) ∧ (1 ≤ t ∧ t ≤ b))
    (hp : post (sl, it, nI b, nI n, nI ((gs_set b E (64 - c) st so c).2.2), (gs_set b E (64 - c) st so c).1, pr, rf, lt, li, lk, lv, (gs_set b E (64 - c) st so c).2.1)) : wpX_settle post (sl, it, nI b, nI n, nI c, st, pr, rf, lt, li, lk, lv, so) :=
  ⟨64 - c + 1, xo_settleW hb hE hEb (64 - c) c st so (by omega) hp⟩
end
section
variable {sl it : Int32} {b n c : Nat} {st : Nat → Int32} {pr rf : Nat → Int64} {lt li lk lv so : Nat → Int32}
/-- the graph behind an abort of D -/
def gs_EA (E : Nat → Nat → Prop) (D : Nat → Prop) (s t : Nat) : Prop := E s t ∧ ¬ D s ∧ ¬ D t
theorem gs_PE_A {E : Nat → Nat → Prop} {D : Nat → Prop} {p : Nat → Int64} (hE : gs_PE pr E) (hEb : ∀ s t, E s t → (1 ≤ s ∧ s ≤ b) ∧ (1 ≤ t ∧ t ≤ b)) (hp : gs_prA D pr b p) : gs_PE p (gs_EA E D) := by
  intro t h1 h2 s
  by_cases c : t ≤ b
  · rw [hp.2 t h1 c s, hE t h1 h2 s]
    exact Iff.rfl
  · rw [hp.1 t (Or.inr (by omega)), hE t h1 h2 s]
    exact ⟨fun h => absurd (hEb s t h).2.2 c, fun h => h.1⟩
theorem xo_abort {post : Int32 → SX → Prop} {E F : Nat → Nat → Prop} {t : Nat} (hb : b ≤ 64) (hc : c ≤ 64) (hE : gs_PE pr E) (hEb : ∀ s t, E s t → (1 ≤ s ∧ s ≤ b) ∧ (1 ≤ t ∧ t ≤ b)) (hF : gs_RF rf F) (h1 : 1 ≤ t) (h2 : t ≤ b)
    {D : Nat → Prop} (hD : D = gs_Dm b F st t) {E' : Nat → Nat → Prop} (hE' : E' = gs_EA E D) {g : (Nat → Int32) × (Nat → Int32) × Nat} (hg : g = gs_set b E' (64 - c) (gs_abs D st b) so c)
    (hp : ∀ p, gs_PE p E' → post (nI (gs_cnt D b)) (sl, it, nI b, nI n, nI (g.2.2), g.1, p, rf, lt, li, lk, lv, g.2.1)) : wpX_abortWithReaders post (sl, it, nI b, nI n, nI c, st, pr, rf, lt, li, lk, lv, so) (nI t) := by
  subst hg
  unfold wpX_abortWithReaders
  dsimp only
  refine xo_withRd hb hF h1 h2 (fun w hw => ?_)
  rw [← hD] at hw
  refine pk_loop (σ := Nat × (Nat → Int32) × (Nat → Int64)) (fun m i s => wX_abortWithReaders_12 post w sl it (nI b) (nI n) (nI c) m (nI s.1) (nI (i + 1)) s.2.1 s.2.2 rf lt li lk lv so)
    (fun i s => s.1 = gs_cnt D i ∧ s.2.1 = gs_abs D st i ∧ gs_prA D pr i s.2.2) b 0 (0, st, pr) (Nat.zero_le b) ⟨rfl, (gs_abs_0 D st).symm, gs_prA_0 D pr⟩ ?_ ?_
  · rintro m ⟨k, s', p⟩ ⟨e1, e2, e3⟩
    dsimp only at e1 e2 e3
    subst e1 e2
    have hpE := gs_PE_A hE hEb e3
    rw [← hE'] at hpE
    refine pk_lt b (b + 1) (fun _ => ?_) (fun h => absurd h (by omega))
    exact xo_settle hb hc hpE (fun s t h => by rw [hE'] at h; exact hEb s t h.1) (hp p hpE)
  · rintro m i ⟨k, s', p⟩ hi ⟨e1, e2, e3⟩ kk
    dsimp only at e1 e2 e3 kk ⊢
    subst e1 e2
    have hcl : (nI (i + 1)).toNatClampNeg = i + 1 := nI_clamp (by omega)
    have hin : vp_in (nI (i + 1)) 65 := vp_in_nI (by omega) (by omega)
    have hpi : p (i + 1) = pr (i + 1) := e3.1 (i + 1) (Or.inr (by omega))
    refine pk_lt b (i + 1) (fun h => absurd h (by omega)) (fun _ => ?_)
    refine ⟨hin, hin, nm_r (e' := vp_updL p (i + 1) (pr (i + 1) &&& (w ^^^ (-1)))) (by rw [hcl, hpi]) ?_⟩
    refine xo_has (by omega) (by omega) (fun h => ?_) (fun h => ?_)
    · have hd : D (i + 1) := (hw _).mp h
      refine br_f (by decide) ⟨hin, nm_r (e' := vp_updL p (i + 1) 0) ?_ ⟨hin, nm_r (e' := gs_abs D st (i + 1)) (by rw [hcl]; exact gs_abs_s hd) (nm_r (nI_1 _) (nm_r (nI_1 (i + 1)) (kk (gs_cnt D i + 1, gs_abs D st (i + 1), vp_updL p (i + 1) 0) ⟨(gs_cnt_t hd).symm, rfl, ?_⟩)))⟩⟩
      · rw [hcl]
        funext j
        by_cases e : j = i + 1
        · rw [e, pk_uLs, pk_uLs]
        · rw [pk_uLn e, pk_uLn e, pk_uLn e]
      · exact gs_prA_s e3 (fun s => ⟨fun z => absurd z (gs_m_0 s), fun z => absurd hd z.2.2⟩)
    · have hd : ¬ D (i + 1) := fun z => h ((hw _).mpr z)
      refine br_t rfl (nm_r (nI_1 (i + 1)) (kk (gs_cnt D i, gs_abs D st i, vp_updL p (i + 1) (pr (i + 1) &&& (w ^^^ (-1)))) ⟨(gs_cnt_f hd).symm, gs_abs_n hd, ?_⟩))
      refine gs_prA_s e3 (fun s => ?_)
      rw [gs_m_not, hw s]
      exact ⟨fun z => ⟨z.1, z.2, hd⟩, fun z => ⟨z.1, z.2.1⟩⟩
theorem xo_mustWait {post : Int32 → Prop} {F : Nat → Nat → Prop} {t : Nat} (hb : b ≤ 64) (hF : gs_RF rf F) (hFb : ∀ t w, F t w → 1 ≤ w ∧ w ≤ b) (h1 : 1 ≤ t) (h2 : t ≤ b)
    (p1 : (∃ w, F t w ∧ gs_un (st w)) → post 1) (p0 : (∀ w, F t w → ¬ gs_un (st w)) → post 0) : wpX_mustWait post (sl, it, nI b, nI n, nI c, st, pr, rf, lt, li, lk, lv, so) (nI t) := by
  unfold wpX_mustWait
  dsimp only
  refine ⟨vp_in_nI (by omega) (by omega), xo_unfSet hb (fun w hw => ?_)⟩
  rw [nI_clamp (show t < 2 ^ 31 by omega)]
  refine br_c (fun z => p0 ?_) (fun z => p1 ?_)
  · rw [gs_and0] at z
    exact fun v hv hu => z v ((hF t h1 (by omega) v).mpr hv) ((hw v).mpr ⟨hFb t v hv, hu⟩)
  · rw [gs_and0] at z
    apply Classical.byContradiction
    intro y
    exact z (fun v v1 v2 => y ⟨v, (hF t h1 (by omega) v).mp v1, ((hw v).mp v2).2⟩)
theorem xo_firstReady {post : Int32 → Prop} {F : Nat → Nat → Prop} (hb : b ≤ 64) (hF : gs_RF rf F) (hFb : ∀ t w, F t w → 1 ≤ w ∧ w ≤ b) (hp : post (nI (gs_fst (gs_Go F st) b 1))) : wpX_firstReadyWaiter post (sl, it, nI b, nI n, nI c, st, pr, rf, lt, li, lk, lv, so) := by
  unfold wpX_firstReadyWaiter
  dsimp only
  refine pk_loop (σ := Unit) (fun m i _ => wX_firstReadyWaiter_2 post sl it (nI b) (nI n) (nI c) st pr rf lt li lk lv so m (nI (i + 1))) (fun i _ => gs_fst (gs_Go F st) (b - i) (i + 1) = gs_fst (gs_Go F st) b 1) b 0 () (Nat.zero_le b) rfl ?_ ?_
  · intro m _ hs
    refine pk_lt b (b + 1) (fun _ => ?_) (fun h => absurd h (by omega))
    rw [Nat.sub_self] at hs
    rw [← hs] at hp
    exact hp
  · intro m i _ hi hs k
    refine pk_lt b (i + 1) (fun h => absurd h (by omega)) (fun _ => ?_)
    have hcl : (nI (i + 1)).toNatClampNeg = i + 1 := nI_clamp (by omega)
    have hin : vp_in (nI (i + 1)) 65 := vp_in_nI (by omega) (by omega)
    rw [show b - i = (b - (i + 1)) + 1 by omega] at hs
    refine ⟨hin, ?_⟩
    rw [hcl]
    refine br_c (fun h2 => ?_) (fun h2 => ?_)
    · refine xo_mustWait hb hF hFb (by omega) (by omega) (fun z => ?_) (fun z => ?_)
      · obtain ⟨w, w1, w2⟩ := z
        have hr : ¬ gs_Go F st (i + 1) := fun r => r.2 w w1 w2
        rw [gs_fst_f hr] at hs
        exact br_f (by decide) (nm_r (nI_1 (i + 1)) (k () hs))
      · have hr : gs_Go F st (i + 1) := ⟨h2, z⟩
        rw [gs_fst_t hr] at hs
        rw [← hs] at hp
        exact br_t rfl hp
    · have hr : ¬ gs_Go F st (i + 1) := fun r => h2 r.1
      rw [gs_fst_f hr] at hs
      exact nm_r (nI_1 (i + 1)) (k () hs)
theorem xo_commitW {post : Int32 → SX → Prop} {F : Nat → Nat → Prop} (hb : b ≤ 64) (hF : gs_RF rf F) (hFb : ∀ t w, F t w → 1 ≤ w ∧ w ≤ b)
    (hp : ∀ k s, gs_Wy b F st k s → (∀ t, 1 ≤ t → t ≤ b → ¬ gs_Go F s t) → post (nI k) (sl, it, nI b, nI n, nI c, s, pr, rf, lt, li, lk, lv, so)) : wpX_commitWaiters post (sl, it, nI b, nI n, nI c, st, pr, rf, lt, li, lk, lv, so) := by
  unfold wpX_commitWaiters
  dsimp only
  refine pk_loop (σ := Nat → Int32) (fun m r s => wX_commitWaiters_4 post sl it (nI b) (nI n) (nI c) m (nI r) (nI r) s pr rf lt li lk lv so) (fun r s => gs_Wy b F st r s) b 0 st (Nat.zero_le b) (gs_wy0 b F st) ?_ ?_
  · intro m s hs
    refine pk_le b b (fun _ => hp b s hs ?_) (fun h => absurd h (by omega))
    intro t h1 h2 hg
    have e : gs_cnt (fun j => s j = 2) b = 0 := by
      have := hs.2
      have := gs_cnt_le (fun j => st j = 2) b
      omega
    exact gs_cnt_none e t h1 h2 hg.1
  · intro m r s hr hs k
    refine pk_le b r (fun h => absurd h (by omega)) (fun _ => ?_)
    refine xo_firstReady hb hF hFb ?_
    cases gs_fst_or (gs_Go F s) b 1 (Nat.le_refl 1) with
    | inl h =>
      rw [h.1]
      exact br_t rfl (hp r s hs (fun t h1 h2 => h.2 t h1 (by omega)))
    | inr h =>
      have hcl : (nI (gs_fst (gs_Go F s) b 1)).toNatClampNeg = gs_fst (gs_Go F s) b 1 := nI_clamp (by omega)
      exact br_f (nI_ne0 (by omega) (by omega)) ⟨vp_in_nI (by omega) (by omega), nm_r (e' := upd s (gs_fst (gs_Go F s) b 1) 3) (by rw [hcl]) (nm_r (nI_1 r) (nm_r (nI_1 r) (k _ (gs_wyS hs h.1 (by omega) h.2.2))))⟩
theorem xo_commit {post : Int32 → SX → Prop} {E F : Nat → Nat → Prop} {t : Nat} (hb : b ≤ 64) (hc : c ≤ 64) (hE : gs_PE pr E) (hEb : ∀ s t, E s t → (1 ≤ s ∧ s ≤ b) ∧ (1 ≤ t ∧ t ≤ b)) (hF : gs_RF rf F) (hFb : ∀ t w, F t w → 1 ≤ w ∧ w ≤ b) (h1 : 1 ≤ t) (h2 : t ≤ b)
    (pN : ¬ st t = 1 → post (-2) (sl, it, nI b, nI n, nI c, st, pr, rf, lt, li, lk, lv, so)) (pW : st t = 1 → (∃ w, F t w ∧ gs_un (st w)) → post 0 (sl, it, nI b, nI n, nI c, upd st t 2, pr, rf, lt, li, lk, lv, so))
    (pC : st t = 1 → (∀ w, F t w → ¬ gs_un (st w)) → ∀ k s, gs_Wy b F (upd st t 3) k s → (∀ t, 1 ≤ t → t ≤ b → ¬ gs_Go F s t) →
      post (nI (1 + k)) (sl, it, nI b, nI n, nI ((gs_set b E (64 - c) s so c).2.2), (gs_set b E (64 - c) s so c).1, pr, rf, lt, li, lk, lv, (gs_set b E (64 - c) s so c).2.1)) : wpX_commit post (sl, it, nI b, nI n, nI c, st, pr, rf, lt, li, lk, lv, so) (nI t) := by
  have hcl : (nI t).toNatClampNeg = t := nI_clamp (by omega)
  have hin : vp_in (nI t) 65 := vp_in_nI (by omega) (by omega)
  unfold wpX_commit
  dsimp only
  refine xo_begun1 h1 h2 hb (br_f (by decide) ⟨hin, ?_⟩)
  rw [hcl]
  refine br_c (fun e => ?_) pN
  refine xo_mustWait hb hF hFb h1 h2 (fun z => ?_) (fun z => ?_)
  · exact br_f (by decide) ⟨hin, nm_e (pW e z)⟩
  · refine br_t rfl ⟨hin, nm_e ?_⟩
    refine xo_commitW hb hF hFb (fun k s hk hs => ?_)
    refine nm_r (nI_add 1 k) ?_
    exact xo_settle hb hc hE hEb (pC e z k s hk hs)
end
end
section
/-! the class: the log -/
/-- entry i writes x and stands -/
def gs_Wr (T : Nat → Nat) (X K st : Nat → Int32) (x : Int32) (i : Nat) : Prop := (X i = x ∧ ¬ K i &&& 2 = 0) ∧ ¬ st (T i) = 5
/-- entry i writes x and is settled -/
def gs_Ws (T : Nat → Nat) (X K st : Nat → Int32) (x : Int32) (i : Nat) : Prop := (X i = x ∧ ¬ K i &&& 2 = 0) ∧ st (T i) = 4
/-- entry i is t's and writes x -/
def gs_Wt (T : Nat → Nat) (X K : Nat → Int32) (t : Nat) (x : Int32) (i : Nat) : Prop := T i = t ∧ X i = x ∧ ¬ K i &&& 2 = 0
def gs_val (d : Int32) (lv : Nat → Int32) : Nat → Int32
  | 0 => d
  | i + 1 => lv i
def gs_wrt (T : Nat → Nat) : Nat → Nat
  | 0 => 0
  | i + 1 => T i
theorem gs_dn (i : Nat) : nI i + (-1) = nI i - 1 := (Int32.sub_eq_add_neg (nI i) 1).symm
theorem gs_dn0 : nI 0 - 1 < 0 := by decide
section
variable {sl it : Int32} {b n c : Nat} {st : Nat → Int32} {pr rf : Nat → Int64} {lt li lk lv so : Nat → Int32} {T : Nat → Nat} {X K : Nat → Int32}
theorem xl_writesItem {post : Int32 → Prop} {i : Nat} {x : Int32} (hL : gs_Lg n b T X K lt li lk) (hn : n ≤ 128) (hi : i < n) (p1 : X i = x ∧ ¬ K i &&& 2 = 0 → post 1) (p0 : ¬ (X i = x ∧ ¬ K i &&& 2 = 0) → post 0) : wpX_writesItem post (sl, it, nI b, nI n, nI c, st, pr, rf, lt, li, lk, lv, so) (nI i) x := by
  have hin : vp_in (nI i) 128 := vp_in_nI (by omega) (by omega)
  have hcl : (nI i).toNatClampNeg = i := nI_clamp (by omega)
  unfold wpX_writesItem
  dsimp only
  rw [hcl, (hL i hi).2.2.2.1, (hL i hi).2.2.2.2]
  exact ⟨hin, br_c (fun a => ⟨hin, br_c (fun d => p0 (fun z => z.2 d)) (fun d => p1 ⟨a, d⟩)⟩) (fun a => p0 (fun z => a z.1))⟩
theorem xl_isStanding {post : Int32 → Prop} {i : Nat} (hL : gs_Lg n b T X K lt li lk) (hn : n ≤ 128) (hb : b ≤ 64) (hi : i < n) (p1 : ¬ st (T i) = 5 → post 1) (p0 : st (T i) = 5 → post 0) : wpX_isStanding post (sl, it, nI b, nI n, nI c, st, pr, rf, lt, li, lk, lv, so) (nI i) := by
  have hin : vp_in (nI i) 128 := vp_in_nI (by omega) (by omega)
  have hcl : (nI i).toNatClampNeg = i := nI_clamp (by omega)
  have h := hL i hi
  have hcl' : (nI (T i)).toNatClampNeg = T i := nI_clamp (by omega)
  unfold wpX_isStanding
  dsimp only
  rw [hcl, h.1, hcl']
  exact ⟨hin, vp_in_nI (by omega) (by omega), br_c p0 p1⟩
theorem xl_lastWrite {post : Int32 → Prop} {x : Int32} (hL : gs_Lg n b T X K lt li lk) (hn : n ≤ 128) (hb : b ≤ 64) (p0 : gs_lst (gs_Wr T X K st x) n = 0 → post (-1)) (p1 : ∀ i, gs_lst (gs_Wr T X K st x) n = i + 1 → post (nI i)) : wpX_lastWrite post (sl, it, nI b, nI n, nI c, st, pr, rf, lt, li, lk, lv, so) x := by
  unfold wpX_lastWrite
  dsimp only
  refine nm_e ⟨n + 1, ?_⟩
  refine pk_loopD (σ := Unit) (fun m i _ => wX_lastWrite_7 post x sl it (nI b) (nI n) (nI c) st pr rf lt li lk lv so m (nI i - 1)) (fun i _ => i ≤ n ∧ gs_lst (gs_Wr T X K st x) i = gs_lst (gs_Wr T X K st x) n) ?_ ?_ n () ⟨Nat.le_refl n, rfl⟩
  · intro m _ h
    exact br_t gs_dn0 (p0 h.2.symm)
  · intro m i _ h k
    rw [nI_pred]
    refine br_f (nI_pos (by omega)) ?_
    refine xl_writesItem hL hn (by omega) (fun a => ?_) (fun a => ?_)
    · refine br_f (by decide) (xl_isStanding hL hn hb (by omega) (fun d => ?_) (fun d => ?_))
      · rw [gs_lst_t ⟨a, d⟩] at h
        exact br_f (by decide) (p1 i h.2.symm)
      · rw [gs_lst_f (fun z => z.2 d)] at h
        exact br_t rfl (nm_r (gs_dn i) (k () ⟨by omega, h.2⟩))
    · rw [gs_lst_f (fun z => a z.1)] at h
      exact br_t rfl (nm_r (gs_dn i) (k () ⟨by omega, h.2⟩))
theorem xl_cur {post : Int32 → Prop} {x : Int32} (hL : gs_Lg n b T X K lt li lk) (hn : n ≤ 128) (hb : b ≤ 64) (hp : post (gs_val 0 lv (gs_lst (gs_Wr T X K st x) n))) : wpX_currentValue post (sl, it, nI b, nI n, nI c, st, pr, rf, lt, li, lk, lv, so) x := by
  unfold wpX_currentValue
  dsimp only
  refine xl_lastWrite hL hn hb (fun e => ?_) (fun i e => ?_)
  · rw [e] at hp
    exact br_f (by decide) hp
  · have hi := (gs_lst_in e).1
    rw [e] at hp
    refine br_t (nI_pos' (by omega)) ⟨vp_in_nI (by omega) (by omega), ?_⟩
    rw [nI_clamp (show i < 2 ^ 31 by omega)]
    exact hp
theorem xl_lastWriter {post : Int32 → Prop} {x : Int32} (hL : gs_Lg n b T X K lt li lk) (hn : n ≤ 128) (hb : b ≤ 64) (hp : post (nI (gs_wrt T (gs_lst (gs_Wr T X K st x) n)))) : wpX_lastWriter post (sl, it, nI b, nI n, nI c, st, pr, rf, lt, li, lk, lv, so) x := by
  unfold wpX_lastWriter
  dsimp only
  refine xl_lastWrite hL hn hb (fun e => ?_) (fun i e => ?_)
  · rw [e] at hp
    exact br_f (by decide) hp
  · have hi := (gs_lst_in e).1
    rw [e] at hp
    refine br_t (nI_pos' (by omega)) ⟨vp_in_nI (by omega) (by omega), ?_⟩
    rw [nI_clamp (show i < 2 ^ 31 by omega), (hL i hi).1]
    exact hp
theorem gs_wrt_in {P : Nat → Prop} (hL : gs_Lg n b T X K lt li lk) : gs_wrt T (gs_lst P n) = 0 ∨ (1 ≤ gs_wrt T (gs_lst P n) ∧ gs_wrt T (gs_lst P n) ≤ b) := by
  cases e : gs_lst P n with
  | zero => exact Or.inl rfl
  | succ i =>
    have hi := hL i (gs_lst_in e).1
    exact Or.inr ⟨hi.2.1, hi.2.2.1⟩
theorem xl_note {post : SX → Prop} {x : Int32} {t w : Nat} (hL : gs_Lg n b T X K lt li lk) (hn : n ≤ 128) (hb : b ≤ 64) (h2 : t ≤ b) (hw : w = gs_wrt T (gs_lst (gs_Wr T X K st x) n))
    (pN : ¬ (w ≠ 0 ∧ w ≠ t ∧ gs_un (st w)) → post (sl, it, nI b, nI n, nI c, st, pr, rf, lt, li, lk, lv, so)) (pY : w ≠ 0 → w ≠ t → gs_un (st w) → post (sl, it, nI b, nI n, nI c, st, pr, vp_updL rf t (rf t ||| gs_bit w), lt, li, lk, lv, so)) : wpX_noteReading post (sl, it, nI b, nI n, nI c, st, pr, rf, lt, li, lk, lv, so) (nI t) x := by
  have hwb := gs_wrt_in (P := gs_Wr T X K st x) hL
  rw [← hw] at hwb
  have hin : vp_in (nI t) 65 := vp_in_nI (by omega) (by omega)
  have hcl : (nI t).toNatClampNeg = t := nI_clamp (by omega)
  unfold wpX_noteReading
  dsimp only
  refine xl_lastWriter hL hn hb ?_
  rw [← hw]
  refine pk_eq w 0 (fun e => pN (fun z => z.1 e)) (fun e => ?_)
  refine pk_eq w t (fun e' => pN (fun z => z.2.1 e')) (fun e' => ?_)
  refine xo_isUnf (by omega) (fun u => ?_) (fun u => ?_)
  · refine br_f (by decide) ⟨hin, xo_bit (by omega) (by omega) ⟨hin, nm_r (e' := vp_updL rf t (rf t ||| gs_bit w)) (by rw [hcl]) (pY e e' u)⟩⟩
  · exact br_t rfl (pN (fun z => u z.2.2))
theorem xl_enter {post : SX → Prop} {t : Nat} {x k v : Int32} {w : Int64} (hn : n < 128) (hb : b ≤ 64) (h2 : t ≤ b)
    (hp : post (sl, it, nI b, nI (n + 1), nI c, st, vp_updL pr t (pr t ||| w), rf, upd lt n (nI t), upd li n x, upd lk n k, upd lv n v, so)) : wpX_enter post (sl, it, nI b, nI n, nI c, st, pr, rf, lt, li, lk, lv, so) (nI t) x k v w := by
  have hin : vp_in (nI n) 128 := vp_in_nI (by omega) (by omega)
  have hit : vp_in (nI t) 65 := vp_in_nI (by omega) (by omega)
  have hcl : (nI t).toNatClampNeg = t := nI_clamp (by omega)
  have hcn : (nI n).toNatClampNeg = n := nI_clamp (by omega)
  unfold wpX_enter
  dsimp only
  rw [hcl, hcn]
  exact ⟨hin, nm_e ⟨hin, nm_e ⟨hin, nm_e ⟨hin, nm_e (nm_r (nI_1 n) ⟨hit, hit, nm_e hp⟩)⟩⟩⟩⟩
theorem gs_Cf_s {st : Nat → Int32} {i t : Nat} {x k : Int32} (z : Nat) : gs_Cf (i + 1) T X K st t x k z ↔ gs_Cf i T X K st t x k z ∨ (z = T i ∧ T i ≠ t ∧ X i = x ∧ ¬ ((K i ||| k) &&& 2 = 0) ∧ ¬ st (T i) = 5) := by
  constructor
  · rintro ⟨j, hj, rfl, h⟩
    by_cases e : j = i
    · subst e
      exact Or.inr ⟨rfl, h⟩
    · exact Or.inl ⟨j, by omega, rfl, h⟩
  · rintro (⟨j, hj, rfl, h⟩ | ⟨rfl, h⟩)
    · exact ⟨j, by omega, rfl, h⟩
    · exact ⟨i, by omega, rfl, h⟩
theorem xl_conf {post : Int64 → Prop} {t : Nat} {x k : Int32} (hL : gs_Lg n b T X K lt li lk) (hn : n ≤ 128) (hb : b ≤ 64) (h2 : t ≤ b) (hp : ∀ w, (∀ s, gs_m w s ↔ gs_Cf n T X K st t x k s) → post w) : wpX_conflictsOf post (sl, it, nI b, nI n, nI c, st, pr, rf, lt, li, lk, lv, so) (nI t) x k := by
  unfold wpX_conflictsOf
  dsimp only
  refine pk_loop (σ := Int64) (fun m i s => wX_conflictsOf_6 post (nI t) x k sl it (nI b) (nI n) (nI c) st pr rf lt li lk lv so m s (nI i)) (fun i s => ∀ z, gs_m s z ↔ gs_Cf i T X K st t x k z) n 0 0 (Nat.zero_le n) ?_ ?_ ?_
  · exact fun z => ⟨fun h => absurd h (gs_m_0 z), fun ⟨j, hj, _⟩ => absurd hj (by omega)⟩
  · intro m s hs
    exact pk_le n n (fun _ => hp s hs) (fun h => absurd h (by omega))
  · intro m i s hi hs kk
    refine pk_le n i (fun h => absurd h (by omega)) (fun _ => ?_)
    have hin : vp_in (nI i) 128 := vp_in_nI (by omega) (by omega)
    have hcl : (nI i).toNatClampNeg = i := nI_clamp (by omega)
    have h := hL i hi
    have no : ¬ (T i ≠ t ∧ X i = x ∧ ¬ ((K i ||| k) &&& 2 = 0) ∧ ¬ st (T i) = 5) → wX_conflictsOf_6 post (nI t) x k sl it (nI b) (nI n) (nI c) st pr rf lt li lk lv so m s (nI (i + 1)) := by
      intro hz
      refine kk s (fun z => ?_)
      rw [gs_Cf_s, hs z]
      exact ⟨Or.inl, fun y => y.elim (fun y => y) (fun y => absurd y.2 hz)⟩
    refine ⟨hin, ?_⟩
    rw [hcl, h.2.2.2.2]
    refine br_c (fun kz => ?_) (fun kz => ?_)
    · unfold wX_conflictsOf_34
      rw [hcl, h.1, h.2.2.2.1]
      refine ⟨hin, br_c (fun _ => nm_r (nI_1 i) (no (fun y => y.2.2.1 kz))) (fun _ => ⟨hin, br_c (fun _ => br_t rfl (nm_r (nI_1 i) (no (fun y => y.2.2.1 kz)))) (fun _ => nm_r (nI_1 i) (no (fun y => y.2.2.1 kz)))⟩)⟩
    · unfold wX_conflictsOf_34
      rw [hcl, h.1, h.2.2.2.1]
      refine ⟨hin, pk_eq (T i) t (fun e => nm_r (nI_1 i) (no (fun y => y.1 e))) (fun e => ⟨hin, br_c (fun ex => br_f (by decide) ?_) (fun ex => nm_r (nI_1 i) (no (fun y => ex y.2.1)))⟩)⟩
      refine xl_isStanding hL hn hb hi (fun d => ?_) (fun d => br_t rfl (nm_r (nI_1 i) (no (fun y => y.2.2.2 d))))
      refine br_f (by decide) ⟨hin, xo_bit h.2.1 (by omega) (nm_e (nm_r (nI_1 i) (kk _ (fun z => ?_))))⟩
      rw [gs_m_or, gs_Cf_s, hs z, gs_m_bit h.2.1 (by omega)]
      exact ⟨fun y => y.elim Or.inl (fun y => Or.inr ⟨y, e, ex, kz, d⟩), fun y => y.elim Or.inl (fun y => Or.inr y.1)⟩
theorem gs_nb01 {z : Int32} (h : z = 0 ∨ z = 1) : narrow .boolean (.int z) = .int z := by
  cases h with
  | inl h => rw [h]; rfl
  | inr h => rw [h]; rfl
theorem xl_cyc {post : Int32 → Prop} {E : Nat → Nat → Prop} {t : Nat} {w : Int64} (hb : b ≤ 64) (hE : gs_PE pr E) (hEb : ∀ s t, E s t → (1 ≤ s ∧ s ≤ b) ∧ (1 ≤ t ∧ t ≤ b)) (hS : ∀ s, gs_m w s → 1 ≤ s ∧ s ≤ b) (h1 : 1 ≤ t) (h2 : t ≤ b)
    (p1 : gs_Bk (gs_m w) E t → post 1) (p0 : ¬ gs_Bk (gs_m w) E t → post 0) : wpX_closesCycle post (sl, it, nI b, nI n, nI c, st, pr, rf, lt, li, lk, lv, so) (nI t) w := by
  unfold wpX_closesCycle
  dsimp only
  refine xo_withAnc hb hE hEb hS (fun w' hw => ?_)
  exact xo_has h1 (by omega) (fun h => ⟨gs_nb01 (Or.inr rfl), p1 ((hw t).mp h)⟩) (fun h => ⟨gs_nb01 (Or.inl rfl), p0 (fun z => h ((hw t).mpr z))⟩)
end
end
section
/-! the class: public calls -/
def gs_ref (b n : Nat) (it : Int32) (st : Nat → Int32) (t x v : Int32) : Int32 :=
  if t < 1 ∨ (¬ t < 1 ∧ ¬ t ≤ nI b) then -1 else if ¬ st t.toNatClampNeg = 1 then -2 else if x < 0 ∨ ¬ x < it then -3 else if v < 0 ∨ ¬ v ≤ 999 then -4 else if 128 ≤ n then -5 else 0
/-- the classes of a refusal, for both sides -/
theorem gs_ref_c {b n : Nat} {it : Int32} {st : Nat → Int32} (t x v : Int32) (hb : b ≤ 64) :
    ((t < 1 ∨ (¬ t < 1 ∧ ¬ t ≤ nI b)) ∧ gs_ref b n it st t x v = -1) ∨ ∃ j, 1 ≤ j ∧ j ≤ b ∧ t = nI j ∧ ((¬ st j = 1 ∧ gs_ref b n it st t x v = -2) ∨ (st j = 1 ∧ (((x < 0 ∨ ¬ x < it) ∧ gs_ref b n it st t x v = -3) ∨ (¬ x < 0 ∧ x < it ∧
      (((v < 0 ∨ ¬ v ≤ 999) ∧ gs_ref b n it st t x v = -4) ∨ (¬ v < 0 ∧ v ≤ 999 ∧ ((128 ≤ n ∧ gs_ref b n it st t x v = -5) ∨ (n < 128 ∧ gs_ref b n it st t x v = 0)))))))) := by
  unfold gs_ref
  rcases gs_tc t hb with ⟨j, h1, h2, rfl⟩ | h
  · refine Or.inr ⟨j, h1, h2, rfl, ?_⟩
    have hn : ¬ (nI j < 1 ∨ (¬ nI j < 1 ∧ ¬ nI j ≤ nI b)) := by
      rintro (h | h)
      · have := (nI_ltI (b := 1) (by omega) (by omega)).mp h
        omega
      · exact h.2 (nI_le h2 (by omega))
    rw [if_neg hn, nI_clamp (show j < 2 ^ 31 by omega)]
    by_cases hs : st j = 1
    · refine Or.inr ⟨hs, ?_⟩
      rw [if_neg (fun z => z hs)]
      by_cases hx : x < 0 ∨ ¬ x < it
      · exact Or.inl ⟨hx, if_pos hx⟩
      · rw [if_neg hx]
        refine Or.inr ⟨fun z => hx (Or.inl z), Classical.byContradiction fun z => hx (Or.inr z), ?_⟩
        by_cases hv : v < 0 ∨ ¬ v ≤ 999
        · exact Or.inl ⟨hv, if_pos hv⟩
        · rw [if_neg hv]
          refine Or.inr ⟨fun z => hv (Or.inl z), Classical.byContradiction fun z => hv (Or.inr z), ?_⟩
          by_cases hn : 128 ≤ n
          · exact Or.inl ⟨hn, if_pos hn⟩
          · exact Or.inr ⟨by omega, if_neg hn⟩
    · exact Or.inl ⟨hs, if_pos hs⟩
  · exact Or.inl ⟨h, if_pos h⟩
section
variable {sl it : Int32} {b n c : Nat} {st : Nat → Int32} {pr rf : Nat → Int64} {lt li lk lv so : Nat → Int32} {T : Nat → Nat} {X K : Nat → Int32}
theorem xp_ref {post : Int32 → Prop} {t x v : Int32} (hb : b ≤ 64) (hn : n ≤ 128) (hp : post (gs_ref b n it st t x v)) : wpX_operationRefusal post (sl, it, nI b, nI n, nI c, st, pr, rf, lt, li, lk, lv, so) t x v := by
  unfold wpX_operationRefusal
  dsimp only
  rcases gs_ref_c (n := n) (it := it) (st := st) t x v hb with ⟨h, e⟩ | ⟨j, h1, h2, rfl, h⟩
  · rw [e] at hp
    exact xo_begun0 h (br_t rfl hp)
  · have hin : vp_in (nI j) 65 := vp_in_nI (by omega) (by omega)
    have hcl : (nI j).toNatClampNeg = j := nI_clamp (by omega)
    refine xo_begun1 h1 h2 hb (br_f (by decide) ⟨hin, ?_⟩)
    rw [hcl]
    rcases h with ⟨h, e⟩ | ⟨hs, h⟩
    · rw [e] at hp
      exact br_f h hp
    · refine br_t hs ?_
      rcases h with ⟨h, e⟩ | ⟨x0, x1, h⟩
      · rw [e] at hp
        exact xo_item0 h (br_t rfl hp)
      · refine xo_item1 x0 x1 (br_f (by decide) ?_)
        rcases h with ⟨h, e⟩ | ⟨v0, v1, h⟩
        · rw [e] at hp
          by_cases h0 : v < 0
          · exact br_t h0 hp
          · exact br_f h0 (br_f (h.resolve_left h0) hp)
        · refine br_f v0 (br_t v1 ?_)
          rcases h with ⟨h, e⟩ | ⟨h, e⟩
          · rw [e] at hp
            exact pk_lt n 128 (fun z => absurd z (by omega)) (fun _ => hp)
          · rw [e] at hp
            exact pk_lt n 128 (fun _ => hp) (fun z => absurd z (by omega))
theorem xp_read0 {post : Int32 → SX → Prop} {t x : Int32} (hb : b ≤ 64) (hn : n ≤ 128) (h : ¬ gs_ref b n it st t x 0 = 0) (hp : post (gs_ref b n it st t x 0) (sl, it, nI b, nI n, nI c, st, pr, rf, lt, li, lk, lv, so)) : wpX_read post (sl, it, nI b, nI n, nI c, st, pr, rf, lt, li, lk, lv, so) t x := by
  unfold wpX_read
  dsimp only
  exact xp_ref hb hn (br_f h hp)
theorem xp_write0 {post : Int32 → SX → Prop} {t x v : Int32} (hb : b ≤ 64) (hn : n ≤ 128) (h : ¬ gs_ref b n it st t x v = 0) (hp : post (gs_ref b n it st t x v) (sl, it, nI b, nI n, nI c, st, pr, rf, lt, li, lk, lv, so)) : wpX_write post (sl, it, nI b, nI n, nI c, st, pr, rf, lt, li, lk, lv, so) t x v := by
  unfold wpX_write
  dsimp only
  exact xp_ref hb hn (br_f h hp)
theorem xp_add0 {post : Int32 → SX → Prop} {t x v : Int32} (hb : b ≤ 64) (hn : n ≤ 128) (h : ¬ gs_ref b n it st t x v = 0) (hp : post (gs_ref b n it st t x v) (sl, it, nI b, nI n, nI c, st, pr, rf, lt, li, lk, lv, so)) : wpX_add post (sl, it, nI b, nI n, nI c, st, pr, rf, lt, li, lk, lv, so) t x v := by
  unfold wpX_add
  dsimp only
  exact xp_ref hb hn (br_f h hp)
/-- what readFrom is behind a reading of t, whose source would be w -/
def gs_rfN (st : Nat → Int32) (rf : Nat → Int64) (t w : Nat) (r : Nat → Int64) : Prop :=
  (¬ (w ≠ 0 ∧ w ≠ t ∧ gs_un (st w)) ∧ r = rf) ∨ ((w ≠ 0 ∧ w ≠ t ∧ gs_un (st w)) ∧ r = vp_updL rf t (rf t ||| gs_bit w))
theorem xp_read {post : Int32 → SX → Prop} {E F : Nat → Nat → Prop} {t : Nat} {x : Int32} (hb : b ≤ 64) (hc : c ≤ 64) (hn : n < 128) (hL : gs_Lg n b T X K lt li lk) (hE : gs_PE pr E) (hEb : ∀ s t, E s t → (1 ≤ s ∧ s ≤ b) ∧ (1 ≤ t ∧ t ≤ b)) (hF : gs_RF rf F)
    (h1 : 1 ≤ t) (h2 : t ≤ b) (h0 : gs_ref b n it st (nI t) x 0 = 0) {D : Nat → Prop} (hD : D = gs_Dm b F st t) {E' : Nat → Nat → Prop} (hE' : E' = gs_EA E D) {g : (Nat → Int32) × (Nat → Int32) × Nat} (hg : g = gs_set b E' (64 - c) (gs_abs D st b) so c)
    (pC : gs_Bk (gs_Cf n T X K st t x 1) E t → ∀ p, gs_PE p E' → post (-6) (sl, it, nI b, nI n, nI (g.2.2), g.1, p, rf, lt, li, lk, lv, g.2.1))
    (pG : ¬ gs_Bk (gs_Cf n T X K st t x 1) E t → ∀ w, (∀ s, gs_m w s ↔ gs_Cf n T X K st t x 1 s) → ∀ r, gs_rfN st rf t (gs_wrt T (gs_lst (gs_Wr T X K st x) n)) r →
      post (gs_val 0 lv (gs_lst (gs_Wr T X K st x) n)) (sl, it, nI b, nI (n + 1), nI c, st, vp_updL pr t (pr t ||| w), r, upd lt n (nI t), upd li n x, upd lk n 1, upd lv n (gs_val 0 lv (gs_lst (gs_Wr T X K st x) n)), so)) : wpX_read post (sl, it, nI b, nI n, nI c, st, pr, rf, lt, li, lk, lv, so) (nI t) x := by
  unfold wpX_read
  dsimp only
  refine xp_ref hb (by omega) ?_
  rw [h0]
  refine br_t rfl (xl_conf hL (by omega) hb h2 (fun w hw => ?_))
  have hk : gs_Bk (gs_m w) E t ↔ gs_Bk (gs_Cf n T X K st t x 1) E t := gs_L_c hw (fun _ _ => Iff.rfl) t
  refine xl_cyc hb hE hEb (fun s h => gs_Cf_in hL ((hw s).mp h)) h1 h2 (fun z => ?_) (fun z => ?_)
  · exact br_f (by decide) (xo_abort hb hc hE hEb hF h1 h2 hD hE' hg (fun p hp => pC (hk.mp z) p hp))
  · have z' := fun y => z (hk.mpr y)
    refine br_t rfl (xl_cur hL (by omega) hb (xl_note hL (by omega) hb h2 rfl (fun q => ?_) (fun q1 q2 q3 => ?_)))
    · exact xl_enter hn hb h2 (pG z' w hw rf (Or.inl ⟨q, rfl⟩))
    · exact xl_enter hn hb h2 (pG z' w hw _ (Or.inr ⟨⟨q1, q2, q3⟩, rfl⟩))
theorem xp_write {post : Int32 → SX → Prop} {E F : Nat → Nat → Prop} {t : Nat} {x v : Int32} (hb : b ≤ 64) (hc : c ≤ 64) (hn : n < 128) (hL : gs_Lg n b T X K lt li lk) (hE : gs_PE pr E) (hEb : ∀ s t, E s t → (1 ≤ s ∧ s ≤ b) ∧ (1 ≤ t ∧ t ≤ b)) (hF : gs_RF rf F)
    (h1 : 1 ≤ t) (h2 : t ≤ b) (h0 : gs_ref b n it st (nI t) x v = 0) {D : Nat → Prop} (hD : D = gs_Dm b F st t) {E' : Nat → Nat → Prop} (hE' : E' = gs_EA E D) {g : (Nat → Int32) × (Nat → Int32) × Nat} (hg : g = gs_set b E' (64 - c) (gs_abs D st b) so c)
    (pC : gs_Bk (gs_Cf n T X K st t x 2) E t → ∀ p, gs_PE p E' → post (-6) (sl, it, nI b, nI n, nI (g.2.2), g.1, p, rf, lt, li, lk, lv, g.2.1))
    (pG : ¬ gs_Bk (gs_Cf n T X K st t x 2) E t → ∀ w, (∀ s, gs_m w s ↔ gs_Cf n T X K st t x 2 s) →
      post 0 (sl, it, nI b, nI (n + 1), nI c, st, vp_updL pr t (pr t ||| w), rf, upd lt n (nI t), upd li n x, upd lk n 2, upd lv n v, so)) : wpX_write post (sl, it, nI b, nI n, nI c, st, pr, rf, lt, li, lk, lv, so) (nI t) x v := by
  unfold wpX_write
  dsimp only
  refine xp_ref hb (by omega) ?_
  rw [h0]
  refine br_t rfl (xl_conf hL (by omega) hb h2 (fun w hw => ?_))
  have hk : gs_Bk (gs_m w) E t ↔ gs_Bk (gs_Cf n T X K st t x 2) E t := gs_L_c hw (fun _ _ => Iff.rfl) t
  refine xl_cyc hb hE hEb (fun s h => gs_Cf_in hL ((hw s).mp h)) h1 h2 (fun z => ?_) (fun z => ?_)
  · exact br_f (by decide) (xo_abort hb hc hE hEb hF h1 h2 hD hE' hg (fun p hp => pC (hk.mp z) p hp))
  · exact br_t rfl (xl_enter hn hb h2 (pG (fun y => z (hk.mpr y)) w hw))
theorem xp_add {post : Int32 → SX → Prop} {E F : Nat → Nat → Prop} {t : Nat} {x v a : Int32} (hb : b ≤ 64) (hc : c ≤ 64) (hn : n < 128) (hL : gs_Lg n b T X K lt li lk) (hE : gs_PE pr E) (hEb : ∀ s t, E s t → (1 ≤ s ∧ s ≤ b) ∧ (1 ≤ t ∧ t ≤ b)) (hF : gs_RF rf F)
    (h1 : 1 ≤ t) (h2 : t ≤ b) (h0 : gs_ref b n it st (nI t) x v = 0) {D : Nat → Prop} (hD : D = gs_Dm b F st t) {E' : Nat → Nat → Prop} (hE' : E' = gs_EA E D) {g : (Nat → Int32) × (Nat → Int32) × Nat} (hg : g = gs_set b E' (64 - c) (gs_abs D st b) so c)
    (ha : a = (gs_val 0 lv (gs_lst (gs_Wr T X K st x) n) + v) - (gs_val 0 lv (gs_lst (gs_Wr T X K st x) n) + v) / 1000 * 1000)
    (pC : gs_Bk (gs_Cf n T X K st t x 3) E t → ∀ p, gs_PE p E' → post (-6) (sl, it, nI b, nI n, nI (g.2.2), g.1, p, rf, lt, li, lk, lv, g.2.1))
    (pG : ¬ gs_Bk (gs_Cf n T X K st t x 3) E t → ∀ w, (∀ s, gs_m w s ↔ gs_Cf n T X K st t x 3 s) → ∀ r, gs_rfN st rf t (gs_wrt T (gs_lst (gs_Wr T X K st x) n)) r →
      post a (sl, it, nI b, nI (n + 1), nI c, st, vp_updL pr t (pr t ||| w), r, upd lt n (nI t), upd li n x, upd lk n 3, upd lv n a, so)) : wpX_add post (sl, it, nI b, nI n, nI c, st, pr, rf, lt, li, lk, lv, so) (nI t) x v := by
  unfold wpX_add
  dsimp only
  refine xp_ref hb (by omega) ?_
  rw [h0]
  refine br_t rfl (xl_conf hL (by omega) hb h2 (fun w hw => ?_))
  have hk : gs_Bk (gs_m w) E t ↔ gs_Bk (gs_Cf n T X K st t x 3) E t := gs_L_c hw (fun _ _ => Iff.rfl) t
  refine xl_cyc hb hE hEb (fun s h => gs_Cf_in hL ((hw s).mp h)) h1 h2 (fun z => ?_) (fun z => ?_)
  · exact br_f (by decide) (xo_abort hb hc hE hEb hF h1 h2 hD hE' hg (fun p hp => pC (hk.mp z) p hp))
  · have z' := fun y => z (hk.mpr y)
    refine br_t rfl (xl_cur hL (by omega) hb ⟨by decide, nm_r ha.symm (xl_note hL (by omega) hb h2 rfl (fun q => ?_) (fun q1 q2 q3 => ?_))⟩)
    · exact xl_enter hn hb h2 (pG z' w hw rf (Or.inl ⟨q, rfl⟩))
    · exact xl_enter hn hb h2 (pG z' w hw _ (Or.inr ⟨⟨q1, q2, q3⟩, rfl⟩))
theorem xp_settledValue {post : Int32 → Prop} {x : Int32} (hL : gs_Lg n b T X K lt li lk) (hn : n ≤ 128) (hb : b ≤ 64) (x0 : ¬ x < 0) (x1 : x < it) (hp : post (gs_val 0 lv (gs_lst (gs_Ws T X K st x) n))) : wpX_settledValue post (sl, it, nI b, nI n, nI c, st, pr, rf, lt, li, lk, lv, so) x := by
  unfold wpX_settledValue
  dsimp only
  refine xo_item1 x0 x1 (br_f (by decide) (nm_e ⟨n + 1, ?_⟩))
  refine pk_loopD (σ := Unit) (fun m i _ => wX_settledValue_18 post x sl it (nI b) (nI n) (nI c) st pr rf lt li lk lv so m (nI i - 1)) (fun i _ => i ≤ n ∧ gs_lst (gs_Ws T X K st x) i = gs_lst (gs_Ws T X K st x) n) ?_ ?_ n () ⟨Nat.le_refl n, rfl⟩
  · intro m _ h
    rw [← h.2] at hp
    exact br_t gs_dn0 hp
  · intro m i _ h k
    rw [nI_pred]
    have hi := hL i (by omega)
    have hin : vp_in (nI i) 128 := vp_in_nI (by omega) (by omega)
    have hcl : (nI i).toNatClampNeg = i := nI_clamp (by omega)
    have hct : (nI (T i)).toNatClampNeg = T i := nI_clamp (by omega)
    refine br_f (nI_pos (by omega)) ?_
    refine xl_writesItem hL hn (by omega) (fun a => ?_) (fun a => ?_)
    · refine br_f (by decide) ⟨hin, ?_⟩
      rw [hcl, hi.1, hct]
      refine ⟨vp_in_nI (by omega) (by omega), br_c (fun d => ?_) (fun d => ?_)⟩
      · rw [gs_lst_t ⟨a, d⟩] at h
        rw [← h.2] at hp
        exact ⟨hin, hp⟩
      · rw [gs_lst_f (fun z => d z.2)] at h
        exact nm_r (gs_dn i) (k () ⟨by omega, h.2⟩)
    · rw [gs_lst_f (fun z => a z.1)] at h
      exact br_t rfl (nm_r (gs_dn i) (k () ⟨by omega, h.2⟩))
theorem xp_own0 {post : Int32 → Prop} {t : Nat} {x : Int32} (hb : b ≤ 64) (h1 : 1 ≤ t) (h2 : t ≤ b) (ho : gs_op (st t)) (x0 : ¬ x < 0) (x1 : x < it) (hp : post 0) : wpX_ownItemRefusal post (sl, it, nI b, nI n, nI c, st, pr, rf, lt, li, lk, lv, so) (nI t) x := by
  unfold wpX_ownItemRefusal
  dsimp only
  exact xo_begun1 h1 h2 hb (br_f (by decide) (xo_isOpen (by omega) (fun _ => br_f (by decide) (xo_item1 x0 x1 (br_f (by decide) hp))) (fun z => absurd ho z)))
theorem xp_own3 {post : Int32 → Prop} {t : Nat} {x : Int32} (hb : b ≤ 64) (h1 : 1 ≤ t) (h2 : t ≤ b) (ho : gs_op (st t)) (hx : x < 0 ∨ ¬ x < it) (hp : post (-3)) : wpX_ownItemRefusal post (sl, it, nI b, nI n, nI c, st, pr, rf, lt, li, lk, lv, so) (nI t) x := by
  unfold wpX_ownItemRefusal
  dsimp only
  exact xo_begun1 h1 h2 hb (br_f (by decide) (xo_isOpen (by omega) (fun _ => br_f (by decide) (xo_item0 hx (br_t rfl hp))) (fun z => absurd ho z)))
theorem xp_own9 {post : Int32 → Prop} {t : Nat} {x : Int32} (hb : b ≤ 64) (h1 : 1 ≤ t) (h2 : t ≤ b) (ho : ¬ gs_op (st t)) (hp : post (-9)) : wpX_ownItemRefusal post (sl, it, nI b, nI n, nI c, st, pr, rf, lt, li, lk, lv, so) (nI t) x := by
  unfold wpX_ownItemRefusal
  dsimp only
  exact xo_begun1 h1 h2 hb (br_f (by decide) (xo_isOpen (by omega) (fun z => absurd z ho) (fun _ => br_t rfl hp)))
theorem xp_own1 {post : Int32 → Prop} {t : Int32} {x : Int32} (h : t < 1 ∨ (¬ t < 1 ∧ ¬ t ≤ nI b)) (hp : post (-1)) : wpX_ownItemRefusal post (sl, it, nI b, nI n, nI c, st, pr, rf, lt, li, lk, lv, so) t x := by
  unfold wpX_ownItemRefusal
  dsimp only
  exact xo_begun0 h (br_t rfl hp)
theorem xp_pair0 {post : Int32 → Prop} {t u : Nat} (hb : b ≤ 64) (h1 : 1 ≤ t) (h2 : t ≤ b) (u1 : 1 ≤ u) (u2 : u ≤ b) (ho : gs_op (st t)) (hu : gs_op (st u)) (hp : post 0) : wpX_pairRefusal post (sl, it, nI b, nI n, nI c, st, pr, rf, lt, li, lk, lv, so) (nI t) (nI u) := by
  unfold wpX_pairRefusal
  dsimp only
  exact xo_begun1 h1 h2 hb (br_f (by decide) (xo_begun1 u1 u2 hb (br_f (by decide) (xo_isOpen (by omega) (fun _ => br_f (by decide) (xo_isOpen (by omega) (fun _ => br_f (by decide) hp) (fun z => absurd hu z))) (fun z => absurd ho z)))))
theorem xp_pair9 {post : Int32 → Prop} {t u : Nat} (hb : b ≤ 64) (h1 : 1 ≤ t) (h2 : t ≤ b) (u1 : 1 ≤ u) (u2 : u ≤ b) (ho : ¬ (gs_op (st t) ∧ gs_op (st u))) (hp : post (-9)) : wpX_pairRefusal post (sl, it, nI b, nI n, nI c, st, pr, rf, lt, li, lk, lv, so) (nI t) (nI u) := by
  unfold wpX_pairRefusal
  dsimp only
  exact xo_begun1 h1 h2 hb (br_f (by decide) (xo_begun1 u1 u2 hb (br_f (by decide) (xo_isOpen (by omega) (fun a => br_f (by decide) (xo_isOpen (by omega) (fun d => absurd ⟨a, d⟩ ho) (fun _ => br_t rfl hp))) (fun _ => br_t rfl hp)))))
theorem xp_pair1 {post : Int32 → Prop} {t u : Int32} (hb : b ≤ 64) (h : (t < 1 ∨ (¬ t < 1 ∧ ¬ t ≤ nI b)) ∨ (u < 1 ∨ (¬ u < 1 ∧ ¬ u ≤ nI b))) (hp : post (-1)) : wpX_pairRefusal post (sl, it, nI b, nI n, nI c, st, pr, rf, lt, li, lk, lv, so) t u := by
  unfold wpX_pairRefusal
  dsimp only
  rcases gs_tc t hb with ⟨j, h1, h2, rfl⟩ | ht
  · refine xo_begun1 h1 h2 hb (br_f (by decide) ?_)
    rcases h with h | h
    · exfalso
      rcases h with h | h
      · have := (nI_ltI (b := 1) (by omega) (by omega)).mp h
        omega
      · exact h.2 (nI_le h2 (by omega))
    · exact xo_begun0 h (br_t rfl hp)
  · exact xo_begun0 ht (br_t rfl hp)
def gs_acc (T : Nat → Nat) (X K : Nat → Int32) (t : Nat) (x : Int32) : Nat → Int32
  | 0 => 0
  | i + 1 => if T i = t ∧ X i = x then gs_acc T X K t x i ||| K i else gs_acc T X K t x i
theorem gs_acc_t {t i : Nat} {x : Int32} (h : T i = t ∧ X i = x) : gs_acc T X K t x i ||| K i = gs_acc T X K t x (i + 1) := by rw [gs_acc, if_pos h]
theorem gs_acc_f {t i : Nat} {x : Int32} (h : ¬ (T i = t ∧ X i = x)) : gs_acc T X K t x i = gs_acc T X K t x (i + 1) := by rw [gs_acc, if_neg h]
theorem xp_access {post : Int32 → Prop} {t : Nat} {x : Int32} (hL : gs_Lg n b T X K lt li lk) (hn : n ≤ 128) (hb : b ≤ 64) (h1 : 1 ≤ t) (h2 : t ≤ b) (ho : gs_op (st t)) (x0 : ¬ x < 0) (x1 : x < it) (hp : post (gs_acc T X K t x n)) : wpX_access post (sl, it, nI b, nI n, nI c, st, pr, rf, lt, li, lk, lv, so) (nI t) x := by
  unfold wpX_access
  dsimp only
  refine xp_own0 hb h1 h2 ho x0 x1 (br_t rfl ?_)
  refine pk_loop (σ := Int32) (fun m i s => wX_access_19 post (nI t) x sl it (nI b) (nI n) (nI c) st pr rf lt li lk lv so m s (nI i)) (fun i s => s = gs_acc T X K t x i) n 0 0 (Nat.zero_le n) rfl ?_ ?_
  · intro m s hs
    subst hs
    exact pk_le n n (fun _ => hp) (fun h => absurd h (by omega))
  · intro m i s hi hs k
    subst hs
    have h := hL i hi
    have hin : vp_in (nI i) 128 := vp_in_nI (by omega) (by omega)
    have hcl : (nI i).toNatClampNeg = i := nI_clamp (by omega)
    refine pk_le n i (fun h => absurd h (by omega)) (fun _ => ⟨hin, ?_⟩)
    rw [hcl, h.1, h.2.2.2.1, h.2.2.2.2]
    refine pk_eq (T i) t (fun e => ⟨hin, br_c (fun ex => ⟨hin, nm_e (nm_r (nI_1 i) (k _ (gs_acc_t ⟨e, ex⟩)))⟩) (fun ex => nm_r (nI_1 i) (k _ (gs_acc_f (fun z => ex z.2))))⟩) (fun e => nm_r (nI_1 i) (k _ (gs_acc_f (fun z => e z.1))))
theorem xp_written {post : Int32 → Prop} {t : Nat} {x : Int32} (hL : gs_Lg n b T X K lt li lk) (hn : n ≤ 128) (hb : b ≤ 64) (h1 : 1 ≤ t) (h2 : t ≤ b) (ho : gs_op (st t)) (x0 : ¬ x < 0) (x1 : x < it) (hp : post (gs_val (-10) lv (gs_lst (gs_Wt T X K t x) n))) : wpX_written post (sl, it, nI b, nI n, nI c, st, pr, rf, lt, li, lk, lv, so) (nI t) x := by
  unfold wpX_written
  dsimp only
  refine xp_own0 hb h1 h2 ho x0 x1 (br_t rfl (nm_e ⟨n + 1, ?_⟩))
  refine pk_loopD (σ := Unit) (fun m i _ => wX_written_21 post (nI t) x sl it (nI b) (nI n) (nI c) st pr rf lt li lk lv so m (nI i - 1)) (fun i _ => i ≤ n ∧ gs_lst (gs_Wt T X K t x) i = gs_lst (gs_Wt T X K t x) n) ?_ ?_ n () ⟨Nat.le_refl n, rfl⟩
  · intro m _ h
    rw [← h.2] at hp
    exact br_t gs_dn0 hp
  · intro m i _ h k
    rw [nI_pred]
    have hi := hL i (by omega)
    have hin : vp_in (nI i) 128 := vp_in_nI (by omega) (by omega)
    have hcl : (nI i).toNatClampNeg = i := nI_clamp (by omega)
    refine br_f (nI_pos (by omega)) ⟨hin, ?_⟩
    rw [hcl, hi.1]
    refine pk_eq (T i) t (fun e => ?_) (fun e => ?_)
    · refine xl_writesItem hL hn (by omega) (fun a => ?_) (fun a => ?_)
      · rw [gs_lst_t ⟨e, a⟩] at h
        rw [← h.2] at hp
        exact br_f (by decide) ⟨hin, hp⟩
      · rw [gs_lst_f (fun z => a z.2)] at h
        exact br_t rfl (nm_r (gs_dn i) (k () ⟨by omega, h.2⟩))
    · rw [gs_lst_f (fun z => e z.1)] at h
      exact nm_r (gs_dn i) (k () ⟨by omega, h.2⟩)
end
end
section
/-! the reference: single transactions, the log, paths -/
theorem gs_vb0 : vp_nar .boolean 0 = 0 := by decide
theorem gs_vb1 : vp_nar .boolean 1 = 1 := by decide
def gs_mk (mk : Nat → Int32) (s : Nat) : Prop := s ≤ 64 ∧ mk s = 1
def gs_01 (mk : Nat → Int32) : Prop := ∀ s, s ≤ 64 → mk s = 0 ∨ mk s = 1
theorem gs_mk_u {mk : Nat → Int32} {q : Nat} (hq : q ≤ 64) (s : Nat) : gs_mk (upd mk q 1) s ↔ gs_mk mk s ∨ s = q := by
  unfold gs_mk
  by_cases e : s = q
  · subst e
    rw [pk_us]
    exact ⟨fun _ => Or.inr rfl, fun _ => ⟨hq, rfl⟩⟩
  · rw [pk_un e]
    exact ⟨Or.inl, fun h => h.resolve_right e⟩
theorem gs_01_u {mk : Nat → Int32} {q : Nat} (h : gs_01 mk) : gs_01 (upd mk q 1) := by
  intro s hs
  by_cases e : s = q
  · rw [e, pk_us]
    exact Or.inr rfl
  · rw [pk_un e]
    exact h s hs
theorem gs_mk_0 {mk : Nat → Int32} {s : Nat} (hs : s ≤ 64) (h : mk s = 0) : ¬ gs_mk mk s := fun z => by
  rw [z.2] at h
  exact absurd h (by decide)
theorem gs_mk_1 {mk : Nat → Int32} {s : Nat} (h01 : gs_01 mk) (hs : s ≤ 64) (h : ¬ mk s = 0) : gs_mk mk s := ⟨hs, (h01 s hs).resolve_left h⟩
/-- within a round: the marks and the flag, D being what is done if nothing was marked yet -/
def gs_Pq (mk0 : Nat → Int32) (L : Nat → Prop) (D : Prop) (s : Int32 × (Nat → Int32)) : Prop :=
  gs_01 s.2 ∧ (∀ x, gs_mk mk0 x → gs_mk s.2 x) ∧ (∀ x, gs_mk s.2 x → L x) ∧ ((s.1 = 1 ∧ ∃ x, gs_mk s.2 x ∧ ¬ gs_mk mk0 x) ∨ (s.1 = 0 ∧ s.2 = mk0 ∧ D))
theorem gs_pq_mark {mk0 : Nat → Int32} {L : Nat → Prop} {D D' : Prop} {s : Int32 × (Nat → Int32)} {q : Nat} (h : gs_Pq mk0 L D s) (hq : q ≤ 64) (h0 : s.2 q = 0) (hL : L q) : gs_Pq mk0 L D' (1, upd s.2 q 1) := by
  refine ⟨gs_01_u h.1, fun x hx => (gs_mk_u hq x).mpr (Or.inl (h.2.1 x hx)), fun x hx => ?_, Or.inl ⟨rfl, q, (gs_mk_u hq q).mpr (Or.inr rfl), fun z => gs_mk_0 hq h0 (h.2.1 q z)⟩⟩
  cases (gs_mk_u hq x).mp hx with
  | inl z => exact h.2.2.1 x z
  | inr z => rw [z]; exact hL
theorem gs_pq_skip {mk0 : Nat → Int32} {L : Nat → Prop} {D D' : Prop} {s : Int32 × (Nat → Int32)} (h : gs_Pq mk0 L D s) (hD : s.2 = mk0 → D → D') : gs_Pq mk0 L D' s :=
  ⟨h.1, h.2.1, h.2.2.1, h.2.2.2.elim Or.inl (fun z => Or.inr ⟨z.1, z.2.1, hD z.2.1 z.2.2⟩)⟩
theorem gs_pq_01 {mk0 : Nat → Int32} {L : Nat → Prop} {D : Prop} {s : Int32 × (Nat → Int32)} (h : gs_Pq mk0 L D s) : s.1 = 0 ∨ s.1 = 1 := h.2.2.2.elim (fun z => Or.inr z.1) (fun z => Or.inl z.1)
theorem gs_pq_mk {mk0 : Nat → Int32} {S : Nat → Prop} {R : Nat → Nat → Prop} {D : Prop} {b r : Nat} {s : Int32 × (Nat → Int32)} (hb : ∀ s, gs_L S R s → 1 ≤ s ∧ s ≤ b) (hr : r ≤ gs_cnt (gs_mk mk0) b) (h : gs_Pq mk0 (gs_L S R) D s)
    (hD : D → (∀ s, S s → gs_mk mk0 s) ∧ (∀ t s, gs_mk mk0 t → R t s → gs_mk mk0 s)) : gs_Mk S R b (r + 1) (gs_mk s.2) (s.1 = 1) := by
  refine gs_mkS hb hr h.2.1 h.2.2.1 (fun e => ?_) (fun e => ?_)
  · cases h.2.2.2 with
    | inl z => exact z.2
    | inr z =>
      rw [z.1] at e
      exact absurd e (by decide)
  · cases h.2.2.2 with
    | inl z => exact absurd z.1 e
    | inr z =>
      rw [z.2.1]
      exact hD z.2.2
section
variable {sl it : Int32} {b n f c : Nat} {st lt li lk lv rd sr so mk : Nat → Int32} {T : Nat → Nat} {X K : Nat → Int32}
theorem yo_isOpen {post : Int32 → Prop} {t : Nat} (ht : t ≤ 64) (h1 : gs_op (st t) → post 1) (h0 : ¬ gs_op (st t) → post 0) : wpY_isOpen post (sl, it, nI b, nI n, nI f, nI c, st, lt, li, lk, lv, rd, sr, so, mk) (nI t) := by
  have hi : vp_in (nI t) 65 := vp_in_nI (by omega) (by omega)
  have hc : (nI t).toNatClampNeg = t := nI_clamp (by omega)
  unfold wpY_isOpen
  dsimp only
  rw [hc]
  exact ⟨hi, br_c (fun a => h1 (Or.inl a)) (fun a => ⟨hi, br_c (fun b => h1 (Or.inr (Or.inl b))) (fun b => ⟨hi, br_c (fun d => h1 (Or.inr (Or.inr d))) (fun d => h0 (fun z => z.elim a (fun z => z.elim b d)))⟩)⟩)⟩
theorem yo_isUnf {post : Int32 → Prop} {t : Nat} (ht : t ≤ 64) (h1 : gs_un (st t) → post 1) (h0 : ¬ gs_un (st t) → post 0) : wpY_unfinished post (sl, it, nI b, nI n, nI f, nI c, st, lt, li, lk, lv, rd, sr, so, mk) (nI t) := by
  have hi : vp_in (nI t) 65 := vp_in_nI (by omega) (by omega)
  have hc : (nI t).toNatClampNeg = t := nI_clamp (by omega)
  unfold wpY_unfinished
  dsimp only
  rw [hc]
  exact ⟨hi, br_c (fun a => h1 (Or.inl a)) (fun a => ⟨hi, br_c (fun b => h1 (Or.inr b)) (fun b => h0 (fun z => z.elim a b))⟩)⟩
theorem yo_begun1 {post : Int32 → Prop} {t : Nat} (h1 : 1 ≤ t) (h2 : t ≤ b) (hb : b ≤ 64) (hp : post 1) : wpY_known post (sl, it, nI b, nI n, nI f, nI c, st, lt, li, lk, lv, rd, sr, so, mk) (nI t) :=
  br_f (fun h => by have := (nI_ltI (b := 1) (by omega) (by omega)).mp h; omega) (br_f (fun h => by have := (nI_ltI (by omega) (by omega)).mp h; omega) hp)
theorem yo_begun0 {post : Int32 → Prop} {t : Int32} (h : t < 1 ∨ (¬ t < 1 ∧ ¬ t ≤ nI b)) (hp : post 0) : wpY_known post (sl, it, nI b, nI n, nI f, nI c, st, lt, li, lk, lv, rd, sr, so, mk) t := by
  cases h with
  | inl h => exact br_t h hp
  | inr h => exact br_f h.1 (br_t (Int32.not_le.mp h.2) hp)
theorem yl_lastWrite {post : Int32 → Prop} {x : Int32} (hL : gs_Lg n b T X K lt li lk) (hn : n ≤ 128) (hb : b ≤ 64) (p0 : gs_lst (gs_Wr T X K st x) n = 0 → post (-1)) (p1 : ∀ i, gs_lst (gs_Wr T X K st x) n = i + 1 → post (nI i)) : wpY_latestWrite post (sl, it, nI b, nI n, nI f, nI c, st, lt, li, lk, lv, rd, sr, so, mk) x := by
  unfold wpY_latestWrite
  dsimp only
  refine nm_e ⟨n + 1, ?_⟩
  refine pk_loopD (σ := Unit) (fun m i _ => wY_latestWrite_7 post x sl it (nI b) (nI n) (nI f) (nI c) st lt li lk lv rd sr so mk m (nI i - 1)) (fun i _ => i ≤ n ∧ gs_lst (gs_Wr T X K st x) i = gs_lst (gs_Wr T X K st x) n) ?_ ?_ n () ⟨Nat.le_refl n, rfl⟩
  · intro m _ h
    exact br_t gs_dn0 (p0 h.2.symm)
  · intro m i _ h k
    rw [nI_pred]
    have hi := hL i (by omega)
    have hin : vp_in (nI i) 128 := vp_in_nI (by omega) (by omega)
    have hcl : (nI i).toNatClampNeg = i := nI_clamp (by omega)
    have hct : (nI (T i)).toNatClampNeg = T i := nI_clamp (by omega)
    refine br_f (nI_pos (by omega)) ⟨hin, ?_⟩
    rw [hcl, hi.1, hi.2.2.2.1, hi.2.2.2.2, hct]
    refine br_c (fun a => ⟨hin, br_c (fun d => ?_) (fun d => ⟨hin, vp_in_nI (by omega) (by omega), br_c (fun z => ?_) (fun z => ?_)⟩)⟩) (fun a => ?_)
    · rw [gs_lst_f (fun y => y.1.2 d)] at h
      exact nm_r (gs_dn i) (k () ⟨by omega, h.2⟩)
    · rw [gs_lst_f (fun y => y.2 z)] at h
      exact nm_r (gs_dn i) (k () ⟨by omega, h.2⟩)
    · rw [gs_lst_t ⟨⟨a, d⟩, z⟩] at h
      exact p1 i h.2.symm
    · rw [gs_lst_f (fun y => a y.1.1)] at h
      exact nm_r (gs_dn i) (k () ⟨by omega, h.2⟩)
theorem yl_edge {post : Int32 → Prop} {i j : Nat} (hL : gs_Lg n b T X K lt li lk) (hn : n ≤ 128) (hb : b ≤ 64) (hi : i < n) (hj : j < n) (p1 : gs_Ed T X K st i j → post 1) (p0 : ¬ gs_Ed T X K st i j → post 0) : wpY_edge post (sl, it, nI b, nI n, nI f, nI c, st, lt, li, lk, lv, rd, sr, so, mk) (nI i) (nI j) := by
  have ii : vp_in (nI i) 128 := vp_in_nI (by omega) (by omega)
  have ij : vp_in (nI j) 128 := vp_in_nI (by omega) (by omega)
  have ci : (nI i).toNatClampNeg = i := nI_clamp (by omega)
  have cj : (nI j).toNatClampNeg = j := nI_clamp (by omega)
  have a := hL i hi
  have d := hL j hj
  have ti : vp_in (nI (T i)) 65 := vp_in_nI (by omega) (by omega)
  have tj : vp_in (nI (T j)) 65 := vp_in_nI (by omega) (by omega)
  have di : (nI (T i)).toNatClampNeg = T i := nI_clamp (by omega)
  have dj : (nI (T j)).toNatClampNeg = T j := nI_clamp (by omega)
  unfold wpY_edge
  dsimp only
  rw [ci, cj, a.1, d.1, di, dj, a.2.2.2.1, d.2.2.2.1, a.2.2.2.2, d.2.2.2.2]
  exact ⟨ii, ij, pk_eq (T i) (T j) (fun e => p0 (fun z => z.1 e)) (fun e1 => ⟨ii, ij, br_c (fun e2 => ⟨ii, ij, br_c (fun e => p0 (fun z => z.2.2.1 e)) (fun e3 => ⟨ii, ti, br_c (fun e => p0 (fun z => z.2.2.2.1 e)) (fun e4 => ⟨ij, tj, br_c (fun e => p0 (fun z => z.2.2.2.2 e)) (fun e5 => p1 ⟨e1, e2, e3, e4, e5⟩)⟩)⟩)⟩) (fun e => p0 (fun z => e z.2.1))⟩)⟩
theorem yl_path {post : Int32 → SY → Prop} {a z : Nat} (hL : gs_Lg n b T X K lt li lk) (hn : n ≤ 128) (hb : b ≤ 64) (ha : a ≤ 64) (hz : z ≤ 64)
    (p1 : gs_Pl (gs_E n T X K st) a z → ∀ mk, post 1 (sl, it, nI b, nI n, nI f, nI c, st, lt, li, lk, lv, rd, sr, so, mk)) (p0 : ¬ gs_Pl (gs_E n T X K st) a z → ∀ mk, post 0 (sl, it, nI b, nI n, nI f, nI c, st, lt, li, lk, lv, rd, sr, so, mk)) : wpY_path post (sl, it, nI b, nI n, nI f, nI c, st, lt, li, lk, lv, rd, sr, so, mk) (nI a) (nI z) := by
  have hB : ∀ s, gs_L (gs_E n T X K st a) (gs_E n T X K st) s → 1 ≤ s ∧ s ≤ b := fun s h => gs_L_i (A := fun s => 1 ≤ s ∧ s ≤ b) (fun c hc => (gs_E_in hL hc).2.1) (fun _ _ _ hr => (gs_E_in hL hr).2.1) h
  have hcz : (nI z).toNatClampNeg = z := nI_clamp (by omega)
  have hiz : vp_in (nI z) 65 := vp_in_nI (by omega) (by omega)
  have fin : ∀ (mk : Nat → Int32) (r : Nat) (ch : Prop), gs_01 mk → gs_Mk (gs_E n T X K st a) (gs_E n T X K st) b r (gs_mk mk) ch → (¬ ch ∨ b < r) →
      vp_in (nI z) 65 ∧ (narrow .boolean (.int (mk (nI z).toNatClampNeg)) = .int (mk (nI z).toNatClampNeg) ∧ (post (mk (nI z).toNatClampNeg) (sl, it, nI b, nI n, nI f, nI c, st, lt, li, lk, lv, rd, sr, so, mk))) := by
    intro mk r ch h01 hM hx
    have hq := gs_mkE hM hx z
    rw [hcz]
    refine ⟨hiz, gs_nb01 (h01 z hz), ?_⟩
    by_cases e : mk z = 0
    · rw [e]
      exact p0 (fun y => gs_mk_0 hz e (hq.mpr y)) mk
    · have m1 := gs_mk_1 h01 hz e
      rw [m1.2]
      exact p1 (hq.mp m1) mk
  unfold wpY_path
  dsimp only
  refine pk_loop (σ := Nat → Int32) (fun m i mk => wY_path_2 post (nI a) (nI z) sl it (nI b) (nI n) (nI f) (nI c) m (nI i) st lt li lk lv rd sr so mk) (fun i mk => ∀ s, s < i → mk s = 0) 65 0 mk (Nat.zero_le 65) (fun s h => absurd h (by omega)) ?_ ?_
  · intro m mk hmk
    refine pk_lt 64 65 (fun _ => ?_) (fun h => absurd h (by omega))
    refine pk_loop (σ := Int32 × (Nat → Int32)) (fun m r s => wY_path_26 post (nI a) (nI z) sl it (nI b) (nI n) (nI f) (nI c) m s.1 (nI r) st lt li lk lv rd sr so s.2)
      (fun r s => (s.1 = 0 ∨ s.1 = 1) ∧ gs_01 s.2 ∧ gs_Mk (gs_E n T X K st a) (gs_E n T X K st) b r (gs_mk s.2) (s.1 = 1)) 65 0 (1, mk) (Nat.zero_le 65) ?_ ?_ ?_
    · exact ⟨Or.inr rfl, fun s hs => Or.inl (hmk s (by omega)), fun s hs => absurd hs (gs_mk_0 hs.1 (hmk s (by have := hs.1; omega))), Or.inr ⟨rfl, Nat.zero_le _⟩⟩
    · rintro m ⟨ch, mk⟩ hs
      dsimp only at hs ⊢
      exact pk_lt 64 65 (fun _ => fin mk 65 _ hs.2.1 hs.2.2 (Or.inr (by omega))) (fun h => absurd h (by omega))
    · rintro m r ⟨ch, mk⟩ hr hs k
      dsimp only at hs k ⊢
      refine pk_lt 64 r (fun h => absurd h (by omega)) (fun _ => br_c (fun e => ?_) (fun e => ?_))
      · exact fin mk r _ hs.2.1 hs.2.2 (Or.inl (fun y => by rw [e] at y; exact absurd y (by decide)))
      · have e1 : ch = 1 := hs.1.resolve_left e
        have hcnt : r ≤ gs_cnt (gs_mk mk) b := (hs.2.2.2.resolve_left (fun y => y.1 e1)).2
        refine pk_loop (σ := Int32 × (Nat → Int32)) (fun q i s => wY_path_42 post (wY_path_26 post (nI a) (nI z) sl it (nI b) (nI n) (nI f) (nI c) m) (nI a) (nI z) (nI r) sl it (nI b) (nI n) (nI f) (nI c) q s.1 (nI i) st lt li lk lv rd sr so s.2)
          (fun i s => gs_Pq mk (gs_L (gs_E n T X K st a) (gs_E n T X K st)) (∀ i' j, i' < i → i' < j → j < n → (T i' = a ∨ gs_mk mk (T i')) → gs_Ed T X K st i' j → gs_mk mk (T j)) s) n 0 (0, mk) (Nat.zero_le n) ?_ ?_ ?_
        · exact ⟨hs.2.1, fun _ h => h, hs.2.2.1, Or.inr ⟨rfl, rfl, fun i' j h => absurd h (by omega)⟩⟩
        · rintro q s' hs'
          refine pk_le n n (fun _ => nm_r (nI_1 r) (k s' ⟨gs_pq_01 hs', hs'.1, gs_pq_mk hB hcnt hs' (fun hD => ⟨?_, ?_⟩)⟩)) (fun h => absurd h (by omega))
          · rintro s ⟨i, j, hij, hj, h1, rfl, he⟩
            exact hD i j (by omega) hij hj (Or.inl h1) he
          · rintro t s ht ⟨i, j, hij, hj, h1, rfl, he⟩
            exact hD i j (by omega) hij hj (Or.inr (by rw [h1]; exact ht)) he
        · rintro q i s' hi hs' k'
          have hLi := hL i hi
          have iin : vp_in (nI i) 128 := vp_in_nI (by omega) (by omega)
          have icl : (nI i).toNatClampNeg = i := nI_clamp (by omega)
          have tin : vp_in (nI (T i)) 65 := vp_in_nI (by omega) (by omega)
          have tcl : (nI (T i)).toNatClampNeg = T i := nI_clamp (by omega)
          have inner : (T i = a ∨ gs_mk s'.2 (T i)) → ∃ n83, wY_path_83 post (wY_path_26 post (nI a) (nI z) sl it (nI b) (nI n) (nI f) (nI c) m) (wY_path_42 post (wY_path_26 post (nI a) (nI z) sl it (nI b) (nI n) (nI f) (nI c) m) (nI a) (nI z) (nI r) sl it (nI b) (nI n) (nI f) (nI c) q) (nI a) (nI z) (nI r) (nI i) sl it (nI b) (nI n) (nI f) (nI c) n83 s'.1 (nI (i + 1)) st lt li lk lv rd sr so (s'.2) := by
            intro hT
            have hR : ∀ j, i < j → j < n → gs_Ed T X K st i j → gs_L (gs_E n T X K st a) (gs_E n T X K st) (T j) := by
              intro j hij hj he
              cases hT with
              | inl e => exact gs_L_b ⟨i, j, hij, hj, e, rfl, he⟩
              | inr e => exact gs_L_s (hs'.2.2.1 _ e) ⟨i, j, hij, hj, rfl, rfl, he⟩
            refine pk_loop (σ := Int32 × (Nat → Int32)) (fun p j s => wY_path_83 post (wY_path_26 post (nI a) (nI z) sl it (nI b) (nI n) (nI f) (nI c) m) (wY_path_42 post (wY_path_26 post (nI a) (nI z) sl it (nI b) (nI n) (nI f) (nI c) m) (nI a) (nI z) (nI r) sl it (nI b) (nI n) (nI f) (nI c) q) (nI a) (nI z) (nI r) (nI i) sl it (nI b) (nI n) (nI f) (nI c) p s.1 (nI j) st lt li lk lv rd sr so s.2)
              (fun j s => i < j ∧ gs_Pq mk (gs_L (gs_E n T X K st a) (gs_E n T X K st)) ((∀ i' j, i' < i → i' < j → j < n → (T i' = a ∨ gs_mk mk (T i')) → gs_Ed T X K st i' j → gs_mk mk (T j)) ∧ (∀ j', i < j' → j' < j → gs_Ed T X K st i j' → gs_mk mk (T j'))) s) n (i + 1) s' (by omega) ?_ ?_ ?_
            · exact ⟨by omega, gs_pq_skip hs' (fun _ hD => ⟨hD, fun j' g1 g2 => absurd g2 (by omega)⟩)⟩
            · rintro p s ⟨_, hs⟩
              refine pk_le n n (fun _ => nm_r (nI_1 i) (k' s (gs_pq_skip hs (fun _ hD => ?_)))) (fun h => absurd h (by omega))
              intro i' j g1 g2 g3 g4 g5
              by_cases e : i' = i
              · subst e
                exact hD.2 j g2 g3 g5
              · exact hD.1 i' j (by omega) g2 g3 g4 g5
            · rintro p j s hj ⟨hij, hs⟩ k2
              have hLj := hL j hj
              have jin : vp_in (nI j) 128 := vp_in_nI (by omega) (by omega)
              have jcl : (nI j).toNatClampNeg = j := nI_clamp (by omega)
              have ujn : vp_in (nI (T j)) 65 := vp_in_nI (by omega) (by omega)
              have ucl : (nI (T j)).toNatClampNeg = T j := nI_clamp (by omega)
              refine pk_le n j (fun h => absurd h (by omega)) (fun _ => ⟨jin, ?_⟩)
              rw [jcl, hLj.1, ucl]
              refine ⟨ujn, br_c (fun e0 => ?_) (fun e0 => ?_)⟩
              · refine yl_edge hL hn hb hi hj (fun he => ?_) (fun he => ?_)
                · exact br_f (by decide) ⟨jin, ujn, nm_r (e' := upd s.2 (T j) 1) (by rw [gs_vb1]) (nm_r (nI_1 j) (k2 (1, upd s.2 (T j) 1) ⟨by omega, gs_pq_mark hs (by omega) e0 (hR j hij hj he)⟩))⟩
                · refine br_t rfl (nm_r (nI_1 j) (k2 s ⟨by omega, gs_pq_skip hs (fun _ hD => ⟨hD.1, fun j' g1 g2 g3 => ?_⟩)⟩))
                  by_cases e : j' = j
                  · subst e
                    exact absurd g3 he
                  · exact hD.2 j' g1 (by omega) g3
              · refine nm_r (nI_1 j) (k2 s ⟨by omega, gs_pq_skip hs (fun em hD => ⟨hD.1, fun j' g1 g2 g3 => ?_⟩)⟩)
                by_cases e : j' = j
                · subst e
                  rw [← em]
                  exact gs_mk_1 hs.1 (by omega) e0
                · exact hD.2 j' g1 (by omega) g3
          refine pk_le n i (fun h => absurd h (by omega)) (fun _ => ⟨iin, ?_⟩)
          rw [icl, hLi.1, tcl]
          refine pk_eq (T i) a (fun e => nm_r (nI_1 i) (inner (Or.inl e))) (fun e => ⟨iin, tin, br_c (fun e0 => ?_) (fun e0 => nm_r (nI_1 i) (inner (Or.inr (gs_mk_1 hs'.1 (by omega) e0))))⟩)
          refine nm_r (nI_1 i) (k' s' (gs_pq_skip hs' (fun em hD => ?_)))
          intro i' j g1 g2 g3 g4 g5
          by_cases ei : i' = i
          · subst ei
            cases g4 with
            | inl g4 => exact absurd g4 e
            | inr g4 =>
              rw [← em] at g4
              exact absurd g4 (gs_mk_0 (by omega) e0)
          · exact hD i' j (by omega) g2 g3 g4 g5
  · intro m i mk hi hmk k
    have iin : vp_in (nI i) 65 := vp_in_nI (by omega) (by omega)
    have icl : (nI i).toNatClampNeg = i := nI_clamp (by omega)
    refine pk_lt 64 i (fun h => absurd h (by omega)) (fun _ => ⟨iin, nm_r (e' := upd mk i 0) (by rw [icl, gs_vb0]) (nm_r (nI_1 i) (k _ (fun s hs => ?_)))⟩)
    by_cases e : s = i
    · rw [e, pk_us]
    · rw [pk_un e]
      exact hmk s (by omega)
end
end
section
/-! the reference: settling, aborting, waiting -/
section
variable {sl it : Int32} {b n f c : Nat} {st lt li lk lv rd sr so mk : Nat → Int32} {T : Nat → Nat} {X K : Nat → Int32}
theorem yl_openPred {post : Int32 → Prop} {t : Nat} (hL : gs_Lg n b T X K lt li lk) (hn : n ≤ 128) (hb : b ≤ 64) (ht : t ≤ 64)
    (p1 : (∃ s, gs_E n T X K st s t ∧ gs_op (st s)) → post 1) (p0 : (∀ s, gs_E n T X K st s t → ¬ gs_op (st s)) → post 0) : wpY_openPredecessor post (sl, it, nI b, nI n, nI f, nI c, st, lt, li, lk, lv, rd, sr, so, mk) (nI t) := by
  unfold wpY_openPredecessor
  dsimp only
  refine pk_loop (σ := Unit) (fun m j _ => wY_openPredecessor_2 post (nI t) sl it (nI b) (nI n) (nI f) (nI c) st lt li lk lv rd sr so mk m (nI j)) (fun j _ => ∀ i' j', i' < j' → j' < j → T j' = t → gs_Ed T X K st i' j' → ¬ gs_op (st (T i'))) n 0 () (Nat.zero_le n) (fun i' j' _ h => absurd h (by omega)) ?_ ?_
  · intro m _ hs
    refine pk_le n n (fun _ => p0 ?_) (fun h => absurd h (by omega))
    rintro s ⟨i, j, hij, hj, rfl, h2, he⟩
    exact hs i j hij hj h2 he
  · intro m j _ hj hs k
    have hLj := hL j hj
    have jin : vp_in (nI j) 128 := vp_in_nI (by omega) (by omega)
    have jcl : (nI j).toNatClampNeg = j := nI_clamp (by omega)
    refine pk_le n j (fun h => absurd h (by omega)) (fun _ => ⟨jin, ?_⟩)
    rw [jcl, hLj.1]
    refine pk_eq (T j) t (fun e => ?_) (fun e => ?_)
    · refine pk_loop (σ := Unit) (fun q i _ => wY_openPredecessor_22 post (wY_openPredecessor_2 post (nI t) sl it (nI b) (nI n) (nI f) (nI c) st lt li lk lv rd sr so mk m) (nI t) (nI j) sl it (nI b) (nI n) (nI f) (nI c) st lt li lk lv rd sr so mk q (nI i)) (fun i _ => ∀ i', i' < i → gs_Ed T X K st i' j → ¬ gs_op (st (T i'))) j 0 () (Nat.zero_le j) (fun i' h => absurd h (by omega)) ?_ ?_
      · intro q _ hi
        refine pk_le j j (fun _ => nm_r (nI_1 j) (k () ?_)) (fun h => absurd h (by omega))
        intro i' j' g1 g2 g3 g4
        by_cases ej : j' = j
        · subst ej
          exact hi i' g1 g4
        · exact hs i' j' g1 (by omega) g3 g4
      · intro q i _ hij hi k'
        have hLi := hL i (by omega)
        have iin : vp_in (nI i) 128 := vp_in_nI (by omega) (by omega)
        have icl : (nI i).toNatClampNeg = i := nI_clamp (by omega)
        refine pk_le j i (fun h => absurd h (by omega)) (fun _ => ?_)
        refine yl_edge hL hn hb (by omega) hj (fun he => ?_) (fun he => ?_)
        · refine br_f (by decide) ⟨iin, ?_⟩
          rw [icl, hLi.1]
          refine yo_isOpen (by omega) (fun ho => br_f (by decide) (p1 ⟨T i, ⟨i, j, hij, hj, rfl, e, he⟩, ho⟩)) (fun ho => br_t rfl (nm_r (nI_1 i) (k' () ?_)))
          intro i' g1 g2
          by_cases ei : i' = i
          · subst ei
            exact ho
          · exact hi i' (by omega) g2
        · refine br_t rfl (nm_r (nI_1 i) (k' () ?_))
          intro i' g1 g2
          by_cases ei : i' = i
          · subst ei
            exact absurd g2 he
          · exact hi i' (by omega) g2
    · refine nm_r (nI_1 j) (k () ?_)
      intro i' j' g1 g2 g3 g4
      by_cases ej : j' = j
      · subst ej
        exact absurd g3 e
      · exact hs i' j' g1 (by omega) g3 g4
theorem yl_awaits {post : Int32 → Prop} {t : Nat} {R S : Nat → Nat} (hF : gs_Fc f b R S rd sr) (hf : f ≤ 128) (hb : b ≤ 64) (ht : t ≤ 64)
    (p1 : (∃ w, gs_F f R S t w ∧ gs_un (st w)) → post 1) (p0 : (∀ w, gs_F f R S t w → ¬ gs_un (st w)) → post 0) : wpY_awaits post (sl, it, nI b, nI n, nI f, nI c, st, lt, li, lk, lv, rd, sr, so, mk) (nI t) := by
  unfold wpY_awaits
  dsimp only
  refine pk_loop (σ := Unit) (fun m i _ => wY_awaits_2 post (nI t) sl it (nI b) (nI n) (nI f) (nI c) st lt li lk lv rd sr so mk m (nI i)) (fun i _ => ∀ j, j < i → R j = t → ¬ gs_un (st (S j))) f 0 () (Nat.zero_le f) (fun j h => absurd h (by omega)) ?_ ?_
  · intro m _ hs
    refine pk_le f f (fun _ => p0 ?_) (fun h => absurd h (by omega))
    rintro w ⟨j, hj, h1, rfl⟩
    exact hs j hj h1
  · intro m i _ hi hs k
    have h := hF i hi
    have iin : vp_in (nI i) 128 := vp_in_nI (by omega) (by omega)
    have icl : (nI i).toNatClampNeg = i := nI_clamp (by omega)
    refine pk_le f i (fun h => absurd h (by omega)) (fun _ => ⟨iin, ?_⟩)
    rw [icl, h.1, h.2.1]
    refine pk_eq (R i) t (fun e => ⟨iin, ?_⟩) (fun e => ?_)
    · refine yo_isUnf (by omega) (fun hu => br_f (by decide) (p1 ⟨S i, ⟨i, hi, e, rfl⟩, hu⟩)) (fun hu => br_t rfl (nm_r (nI_1 i) (k () ?_)))
      intro j g1 g2
      by_cases ej : j = i
      · subst ej
        exact hu
      · exact hs j (by omega) g2
    · refine nm_r (nI_1 i) (k () ?_)
      intro j g1 g2
      by_cases ej : j = i
      · subst ej
        exact absurd g2 e
      · exact hs j (by omega) g2
end
section
variable {sl it : Int32} {b n f : Nat} {lt li lk lv rd sr mk : Nat → Int32} {T : Nat → Nat} {X K : Nat → Int32}
theorem yl_settle {post : SY → Prop} {c : Nat} {st so : Nat → Int32} (hL : gs_Lg n b T X K lt li lk) (hn : n ≤ 128) (hb : b ≤ 64) (hc : c ≤ 64) {E : Nat → Nat → Prop} (hE : E = gs_E n T X K st) {g : (Nat → Int32) × (Nat → Int32) × Nat} (hg : g = gs_set b E (64 - c) st so c)
    (hp : post (sl, it, nI b, nI n, nI f, nI (g.2.2), g.1, lt, li, lk, lv, rd, sr, g.2.1, mk)) : wpY_settle post (sl, it, nI b, nI n, nI f, nI c, st, lt, li, lk, lv, rd, sr, so, mk) := by
  unfold wpY_settle
  dsimp only
  refine pk_loop (σ := Nat × Nat × (Nat → Int32) × (Nat → Int32)) (fun m r s => wY_settle_4 post sl it (nI b) (nI n) (nI f) m (nI s.1) (nI r) (nI (s.2.1)) s.2.2.1 lt li lk lv rd sr s.2.2.2 mk)
    (fun r s => s.1 ≤ 64 ∧ s.2.1 ≤ 64 ∧ (r ≤ s.2.1 ∨ s.2.1 = 64 ∨ s.1 = 0) ∧ g = gs_set b E (64 - s.2.1) s.2.2.1 s.2.2.2 s.2.1 ∧ (s.1 = 0 → gs_nx b E s.2.2.1 = 0) ∧ (∀ x, s.2.2.1 x = 5 ↔ st x = 5)) 65 0 (1, c, st, so) (Nat.zero_le 65) ?_ ?_ ?_
  · exact ⟨show 1 ≤ 64 by decide, hc, Or.inl (Nat.zero_le _), hg, fun h => absurd (show 1 = 0 from h) (by decide), fun _ => Iff.rfl⟩
  · rintro m ⟨fd, c', st', so'⟩ ⟨h1, h2, h3, h4, h5, h6⟩
    dsimp only at h1 h2 h3 h4 h5 h6 ⊢
    have hq : g = (st', so', c') := by
      by_cases e : fd = 0
      · rw [gs_set_0 (h5 e)] at h4
        exact h4
      · have e : c' = 64 := by omega
        subst e
        exact h4
    rw [hq] at hp
    exact pk_lt 64 65 (fun _ => hp) (fun h => absurd h (by omega))
  · rintro m r ⟨fd, c', st', so'⟩ hr ⟨h1, h2, h3, h4, h5, h6⟩ k
    dsimp only at h1 h2 h3 h4 h5 h6 k ⊢
    refine pk_lt 64 r (fun h => absurd h (by omega)) (fun _ => ?_)
    refine pk_le fd 0 (fun h => ?_) (fun h => ?_)
    · rw [gs_set_0 (h5 (by omega))] at h4
      rw [h4] at hp
      exact hp
    · have hEE : ∀ s t, gs_E n T X K st' s t ↔ E s t := fun s t => by rw [hE]; exact gs_E_c h6 s t
      have fin : ∀ d, d = gs_nx b E st' → wY_settle_56 post (wY_settle_4 post sl it (nI b) (nI n) (nI f) m) (nI d) (nI r) sl it (nI b) (nI n) (nI f) (nI (c')) (st') lt li lk lv rd sr (so') mk := by
        rintro d rfl
        unfold wY_settle_56
        rcases gs_nx_or b E st' with e | ⟨e1, e2, e3⟩
        · rw [e]
          exact pk_le 0 0 (fun _ => nm_r (nI_1 r) (k (0, c', st', so') ⟨show 0 ≤ 64 by decide, h2, Or.inr (Or.inr rfl), h4, fun _ => e, h6⟩)) (fun h => absurd h (by omega))
        · refine pk_le (gs_nx b E st') 0 (fun h => absurd h (by omega)) (fun _ => ?_)
          refine pk_le 64 c' (fun h => ?_) (fun h => ?_)
          · exact nm_r (nI_1 r) (k (gs_nx b E st', c', st', so') ⟨by show gs_nx b E st' ≤ 64; omega, h2, Or.inr (Or.inl (show c' = 64 by omega)), h4, fun z => z, h6⟩)
          · have hcl : (nI (gs_nx b E st')).toNatClampNeg = gs_nx b E st' := nI_clamp (by omega)
            have hcc : (nI c').toNatClampNeg = c' := nI_clamp (by omega)
            have hne : ¬ gs_nx b E st' = 0 := by omega
            rw [show 64 - c' = (64 - (c' + 1)) + 1 by omega, gs_set_s hne] at h4
            refine ⟨vp_in_nI (by omega) (by omega), nm_r (e' := upd st' (gs_nx b E st') 4) (by rw [hcl]) ⟨vp_in_nI (by omega) (by omega), nm_r (e' := upd so' c' (nI (gs_nx b E st'))) (by rw [hcc]) (nm_r (nI_1 c') (nm_r (nI_1 r) ?_))⟩⟩
            refine k (gs_nx b E st', c' + 1, upd st' (gs_nx b E st') 4, upd so' c' (nI (gs_nx b E st'))) ⟨by show gs_nx b E st' ≤ 64; omega, by show c' + 1 ≤ 64; omega, by show r + 1 ≤ c' + 1 ∨ c' + 1 = 64 ∨ gs_nx b E st' = 0; omega, h4, fun z => absurd z hne, fun x => ?_⟩
            refine Iff.trans ?_ (h6 x)
            show upd st' (gs_nx b E st') 4 x = 5 ↔ st' x = 5
            by_cases e : x = gs_nx b E st'
            · rw [e, pk_us, e3.1]
              decide
            · rw [pk_un e]
      refine pk_loop (σ := Nat) (fun q i d => wY_settle_18 post (wY_settle_4 post sl it (nI b) (nI n) (nI f) m) (nI r) sl it (nI b) (nI n) (nI f) (nI (c')) (st') lt li lk lv rd sr (so') mk q (nI d) (nI (i + 1))) (fun i d => d ≤ 64 ∧ ((d = 0 ∧ gs_fst (gs_Rd E st') (b - i) (i + 1) = gs_nx b E st') ∨ (d ≠ 0 ∧ d = gs_nx b E st'))) b 0 0 (Nat.zero_le b) ⟨by decide, Or.inl ⟨rfl, rfl⟩⟩ ?_ ?_
      · rintro q d ⟨_, hd⟩
        refine pk_lt b (b + 1) (fun _ => fin d ?_) (fun h => absurd h (by omega))
        rcases hd with ⟨d0, hd⟩ | ⟨_, hd⟩
        · rw [Nat.sub_self] at hd
          rw [d0]
          exact hd
        · exact hd
      · rintro q i d hi ⟨hd64, hd⟩ k'
        refine pk_lt b (i + 1) (fun h => absurd h (by omega)) (fun _ => ?_)
        rcases hd with ⟨d0, hd⟩ | ⟨d0, hd⟩
        · subst d0
          have iin : vp_in (nI (i + 1)) 65 := vp_in_nI (by omega) (by omega)
          have icl : (nI (i + 1)).toNatClampNeg = i + 1 := nI_clamp (by omega)
          rw [show b - i = (b - (i + 1)) + 1 by omega] at hd
          refine br_t rfl ⟨iin, ?_⟩
          rw [icl]
          have skip : ¬ gs_Rd E st' (i + 1) → wY_settle_18 post (wY_settle_4 post sl it (nI b) (nI n) (nI f) m) (nI r) sl it (nI b) (nI n) (nI f) (nI (c')) (st') lt li lk lv rd sr (so') mk q (nI 0) (nI (i + 1 + 1)) := by
            intro hr
            rw [gs_fst_f hr] at hd
            exact k' 0 ⟨by decide, Or.inl ⟨rfl, hd⟩⟩
          refine br_c (fun h3' => ?_) (fun h3' => nm_r (nI_1 (i + 1)) (skip (fun z => h3' z.1)))
          refine yl_openPred hL hn hb (by omega) (fun z => ?_) (fun z => ?_)
          · obtain ⟨s, s1, s2⟩ := z
            exact br_f (by decide) (nm_r (nI_1 (i + 1)) (skip (fun y => y.2 s ((hEE s _).mp s1) s2)))
          · have hr : gs_Rd E st' (i + 1) := ⟨h3', fun s hs => z s ((hEE s _).mpr hs)⟩
            rw [gs_fst_t hr] at hd
            exact br_t rfl (nm_r (nI_1 (i + 1)) (k' (i + 1) ⟨by omega, Or.inr ⟨by omega, hd⟩⟩))
        · exact br_f (nI_ne0 (by omega) (by omega)) (fin d hd)
end
end
section
/-! the reference: aborting, committing, operating -/
section
variable {sl it : Int32} {b n f c : Nat} {st lt li lk lv rd sr so mk : Nat → Int32} {T : Nat → Nat} {X K : Nat → Int32} {R S : Nat → Nat}
theorem yl_abort {post : Int32 → SY → Prop} {t : Nat} (hL : gs_Lg n b T X K lt li lk) (hn : n ≤ 128) (hb : b ≤ 64) (hc : c ≤ 64) (hF : gs_Fc f b R S rd sr) (hf : f ≤ 128) (h1 : 1 ≤ t) (h2 : t ≤ b)
    {D : Nat → Prop} (hD : D = gs_Dm b (gs_F f R S) st t) {E' : Nat → Nat → Prop} (hE' : E' = gs_E n T X K (gs_abs D st b)) {g : (Nat → Int32) × (Nat → Int32) × Nat} (hg : g = gs_set b E' (64 - c) (gs_abs D st b) so c)
    (hp : ∀ mk, post (nI (gs_cnt D b)) (sl, it, nI b, nI n, nI f, nI (g.2.2), g.1, lt, li, lk, lv, rd, sr, g.2.1, mk)) : wpY_abortSet post (sl, it, nI b, nI n, nI f, nI c, st, lt, li, lk, lv, rd, sr, so, mk) (nI t) := by
  have hB := gs_Dm_in (F := gs_F f R S) (st := st) h1 h2
  unfold gs_Dm at hB
  have tin : vp_in (nI t) 65 := vp_in_nI (by omega) (by omega)
  have tcl : (nI t).toNatClampNeg = t := nI_clamp (by omega)
  have fin : ∀ (mk : Nat → Int32) (r : Nat) (ch : Prop), gs_01 mk → gs_Mk (fun s => s = t) (fun w u => (1 ≤ u ∧ u ≤ b) ∧ gs_un (st u) ∧ gs_F f R S u w) b r (gs_mk mk) ch → (¬ ch ∨ b < r) →
      ∃ n132, wY_abortSet_132 post sl it (nI b) (nI n) (nI f) (nI c) n132 0 1 st lt li lk lv rd sr so mk := by
    intro mk r ch h01 hM hx
    have hq : ∀ s, gs_mk mk s ↔ D s := fun s => by rw [hD]; exact gs_mkE hM hx s
    refine pk_loop (σ := Nat × (Nat → Int32)) (fun m i s => wY_abortSet_132 post sl it (nI b) (nI n) (nI f) (nI c) m (nI s.1) (nI (i + 1)) s.2 lt li lk lv rd sr so mk) (fun i s => s.1 = gs_cnt D i ∧ s.2 = gs_abs D st i) b 0 (0, st) (Nat.zero_le b) ⟨rfl, (gs_abs_0 D st).symm⟩ ?_ ?_
    · rintro m ⟨k, s'⟩ ⟨e1, e2⟩
      dsimp only at e1 e2
      subst e1 e2
      refine pk_lt b (b + 1) (fun _ => ?_) (fun h => absurd h (by omega))
      exact yl_settle hL hn hb hc hE' hg (hp mk)
    · rintro m i ⟨k, s'⟩ hi ⟨e1, e2⟩ kk
      dsimp only at e1 e2 kk ⊢
      subst e1 e2
      have icl : (nI (i + 1)).toNatClampNeg = i + 1 := nI_clamp (by omega)
      have iin : vp_in (nI (i + 1)) 65 := vp_in_nI (by omega) (by omega)
      refine pk_lt b (i + 1) (fun h => absurd h (by omega)) (fun _ => ⟨iin, ?_⟩)
      rw [icl]
      refine br_c (fun e => ?_) (fun e => ?_)
      · have hd : ¬ D (i + 1) := fun z => gs_mk_0 (by omega) e ((hq _).mpr z)
        exact nm_r (nI_1 (i + 1)) (kk (gs_cnt D i, gs_abs D st i) ⟨(gs_cnt_f hd).symm, gs_abs_n hd⟩)
      · have hd : D (i + 1) := (hq _).mp (gs_mk_1 h01 (by omega) e)
        exact ⟨iin, nm_r (gs_abs_s hd) (nm_r (nI_1 _) (nm_r (nI_1 (i + 1)) (kk (gs_cnt D i + 1, gs_abs D st (i + 1)) ⟨(gs_cnt_t hd).symm, rfl⟩)))⟩
  unfold wpY_abortSet
  dsimp only
  refine pk_loop (σ := Nat → Int32) (fun m i mk => wY_abortSet_2 post (nI t) sl it (nI b) (nI n) (nI f) (nI c) m (nI i) st lt li lk lv rd sr so mk) (fun i mk => ∀ s, s < i → mk s = 0) 65 0 mk (Nat.zero_le 65) (fun s h => absurd h (by omega)) ?_ ?_
  · intro m mk hmk
    refine pk_lt 64 65 (fun _ => ⟨tin, nm_r (e' := upd mk t 1) (by rw [tcl, gs_vb1]) ?_⟩) (fun h => absurd h (by omega))
    have hm1 : ∀ s, gs_mk (upd mk t 1) s ↔ s = t := by
      intro s
      rw [gs_mk_u (by omega) s]
      exact ⟨fun h => h.resolve_left (fun z => gs_mk_0 z.1 (hmk s (by have := z.1; omega)) z), Or.inr⟩
    refine pk_loop (σ := Int32 × (Nat → Int32)) (fun m r s => wY_abortSet_32 post sl it (nI b) (nI n) (nI f) (nI c) m s.1 (nI r) st lt li lk lv rd sr so s.2)
      (fun r s => (s.1 = 0 ∨ s.1 = 1) ∧ gs_01 s.2 ∧ gs_mk s.2 t ∧ gs_Mk (fun s => s = t) (fun w u => (1 ≤ u ∧ u ≤ b) ∧ gs_un (st u) ∧ gs_F f R S u w) b r (gs_mk s.2) (s.1 = 1)) 65 0 (1, upd mk t 1) (Nat.zero_le 65) ?_ ?_ ?_
    · exact ⟨Or.inr rfl, gs_01_u (fun s hs => Or.inl (hmk s (by omega))), (hm1 t).mpr rfl, fun s hs => gs_L_b ((hm1 s).mp hs), Or.inr ⟨rfl, Nat.zero_le _⟩⟩
    · rintro m ⟨ch, mk⟩ hs
      dsimp only at hs ⊢
      exact pk_lt 64 65 (fun _ => fin mk 65 _ hs.2.1 hs.2.2.2 (Or.inr (by omega))) (fun h => absurd h (by omega))
    · rintro m r ⟨ch, mk⟩ hr hs k
      dsimp only at hs k ⊢
      refine pk_lt 64 r (fun h => absurd h (by omega)) (fun _ => br_c (fun e => ?_) (fun e => ?_))
      · exact fin mk r _ hs.2.1 hs.2.2.2 (Or.inl (fun y => by rw [e] at y; exact absurd y (by decide)))
      · have e1 : ch = 1 := hs.1.resolve_left e
        have hcnt : r ≤ gs_cnt (gs_mk mk) b := (hs.2.2.2.2.resolve_left (fun y => y.1 e1)).2
        refine pk_loop (σ := Int32 × (Nat → Int32)) (fun q i s => wY_abortSet_47 post (wY_abortSet_32 post sl it (nI b) (nI n) (nI f) (nI c) m) (nI r) sl it (nI b) (nI n) (nI f) (nI c) q s.1 (nI i) st lt li lk lv rd sr so s.2)
          (fun i s => gs_Pq mk (gs_L (fun s => s = t) (fun w u => (1 ≤ u ∧ u ≤ b) ∧ gs_un (st u) ∧ gs_F f R S u w)) (∀ j, j < i → gs_mk mk (S j) → gs_un (st (R j)) → gs_mk mk (R j)) s) f 0 (0, mk) (Nat.zero_le f) ?_ ?_ ?_
        · exact ⟨hs.2.1, fun _ h => h, hs.2.2.2.1, Or.inr ⟨rfl, rfl, fun j h => absurd h (by omega)⟩⟩
        · rintro q s' hs'
          refine pk_le f f (fun _ => nm_r (nI_1 r) (k s' ⟨gs_pq_01 hs', hs'.1, hs'.2.1 t hs.2.2.1, gs_pq_mk hB hcnt hs' (fun hD => ⟨?_, ?_⟩)⟩)) (fun h => absurd h (by omega))
          · rintro s rfl
            exact hs.2.2.1
          · rintro w u hw ⟨_, hu, j, hj, rfl, rfl⟩
            exact hD j hj hw hu
        · rintro q i s' hi hs' k'
          have h := hF i hi
          have iin : vp_in (nI i) 128 := vp_in_nI (by omega) (by omega)
          have icl : (nI i).toNatClampNeg = i := nI_clamp (by omega)
          have rin : vp_in (nI (R i)) 65 := vp_in_nI (by omega) (by omega)
          have rcl : (nI (R i)).toNatClampNeg = R i := nI_clamp (by omega)
          have sin : vp_in (nI (S i)) 65 := vp_in_nI (by omega) (by omega)
          have scl : (nI (S i)).toNatClampNeg = S i := nI_clamp (by omega)
          have skip : (s'.2 = mk → gs_mk mk (S i) → gs_un (st (R i)) → gs_mk mk (R i)) → wY_abortSet_47 post (wY_abortSet_32 post sl it (nI b) (nI n) (nI f) (nI c) m) (nI r) sl it (nI b) (nI n) (nI f) (nI c) q s'.1 (nI (i + 1)) st lt li lk lv rd sr so (s'.2) := by
            intro hx
            refine k' s' (gs_pq_skip hs' (fun em hD j g1 g2 g3 => ?_))
            by_cases ej : j = i
            · subst ej
              exact hx em g2 g3
            · exact hD j (by omega) g2 g3
          refine pk_le f i (fun h => absurd h (by omega)) (fun _ => ⟨iin, ?_⟩)
          rw [icl, h.1, h.2.1, rcl, scl]
          refine ⟨sin, br_c (fun e0 => ?_) (fun e0 => ⟨iin, rin, br_c (fun e2 => ⟨iin, ?_⟩) (fun e2 => ?_)⟩)⟩
          · exact nm_r (nI_1 i) (skip (fun em g => absurd (em ▸ g) (gs_mk_0 (by omega) e0)))
          · refine yo_isUnf (by omega) (fun hu => ?_) (fun hu => br_t rfl (nm_r (nI_1 i) (skip (fun _ _ g => absurd g hu))))
            refine br_f (by decide) ⟨iin, rin, nm_r (e' := upd s'.2 (R i) 1) (by rw [gs_vb1]) (nm_r (nI_1 i) (k' (1, upd s'.2 (R i) 1) (gs_pq_mark hs' (by omega) e2 ?_)))⟩
            exact gs_L_s (hs'.2.2.1 _ (gs_mk_1 hs'.1 (by omega) e0)) ⟨h.2.2.1, hu, i, hi, rfl, rfl⟩
          · exact nm_r (nI_1 i) (skip (fun em _ _ => em ▸ gs_mk_1 hs'.1 (by omega) e2))
  · intro m i mk hi hmk k
    have iin : vp_in (nI i) 65 := vp_in_nI (by omega) (by omega)
    have icl : (nI i).toNatClampNeg = i := nI_clamp (by omega)
    refine pk_lt 64 i (fun h => absurd h (by omega)) (fun _ => ⟨iin, nm_r (e' := upd mk i 0) (by rw [icl, gs_vb0]) (nm_r (nI_1 i) (k _ (fun s hs => ?_)))⟩)
    by_cases e : s = i
    · rw [e, pk_us]
    · rw [pk_un e]
      exact hmk s (by omega)
theorem yl_commit {post : Int32 → SY → Prop} {t : Nat} (hL : gs_Lg n b T X K lt li lk) (hn : n ≤ 128) (hb : b ≤ 64) (hc : c ≤ 64) (hF : gs_Fc f b R S rd sr) (hf : f ≤ 128) (h1 : 1 ≤ t) (h2 : t ≤ b)
    (pN : ¬ st t = 1 → post (-2) (sl, it, nI b, nI n, nI f, nI c, st, lt, li, lk, lv, rd, sr, so, mk)) (pW : st t = 1 → (∃ w, gs_F f R S t w ∧ gs_un (st w)) → post 0 (sl, it, nI b, nI n, nI f, nI c, upd st t 2, lt, li, lk, lv, rd, sr, so, mk))
    (pC : st t = 1 → (∀ w, gs_F f R S t w → ¬ gs_un (st w)) → ∀ k s, gs_Wy b (gs_F f R S) (upd st t 3) k s → (∀ t, 1 ≤ t → t ≤ b → ¬ gs_Go (gs_F f R S) s t) →
      post (nI (1 + k)) (sl, it, nI b, nI n, nI f, nI ((gs_set b (gs_E n T X K s) (64 - c) s so c).2.2), (gs_set b (gs_E n T X K s) (64 - c) s so c).1, lt, li, lk, lv, rd, sr, (gs_set b (gs_E n T X K s) (64 - c) s so c).2.1, mk)) : wpY_commit post (sl, it, nI b, nI n, nI f, nI c, st, lt, li, lk, lv, rd, sr, so, mk) (nI t) := by
  have hcl : (nI t).toNatClampNeg = t := nI_clamp (by omega)
  have hin : vp_in (nI t) 65 := vp_in_nI (by omega) (by omega)
  unfold wpY_commit
  dsimp only
  refine yo_begun1 h1 h2 hb (br_f (by decide) ⟨hin, ?_⟩)
  rw [hcl]
  refine br_c (fun e => ?_) pN
  refine yl_awaits hF hf hb (by omega) (fun z => ?_) (fun z => ?_)
  · exact br_f (by decide) ⟨hin, nm_e (pW e z)⟩
  · refine br_t rfl ⟨hin, nm_e ?_⟩
    have fin : ∀ k s, gs_Wy b (gs_F f R S) (upd st t 3) k s → (∀ t, 1 ≤ t → t ≤ b → ¬ gs_Go (gs_F f R S) s t) → wY_commit_124 post (nI (1 + k)) sl it (nI b) (nI n) (nI f) (nI c) s lt li lk lv rd sr so mk := by
      intro k s hk hs
      unfold wY_commit_124
      exact yl_settle hL hn hb hc rfl rfl (pC e z k s hk hs)
    refine pk_loop (σ := Nat × Int32 × (Nat → Int32)) (fun m r s => wY_commit_54 post sl it (nI b) (nI n) (nI f) (nI c) m (nI (1 + s.1)) s.2.1 (nI r) s.2.2 lt li lk lv rd sr so mk)
      (fun r s => gs_Wy b (gs_F f R S) (upd st t 3) s.1 s.2.2 ∧ ((s.2.1 = 0 ∧ ∀ t, 1 ≤ t → t ≤ b → ¬ gs_Go (gs_F f R S) s.2.2 t) ∨ (s.2.1 = 1 ∧ r ≤ s.1))) 65 0 (0, 1, upd st t 3) (Nat.zero_le 65) ⟨gs_wy0 _ _ _, Or.inr ⟨rfl, Nat.zero_le _⟩⟩ ?_ ?_
    · rintro m ⟨k, ch, s⟩ ⟨hk, hs⟩
      dsimp only at hk hs ⊢
      refine pk_lt 64 65 (fun _ => ?_) (fun h => absurd h (by omega))
      rcases hs with hs | hs
      · exact fin k s hk hs.2
      · have := hk.2
        have := gs_cnt_le (fun j => upd st t 3 j = 2) b
        omega
    · rintro m r ⟨k, ch, s⟩ hr ⟨hk, hs⟩ kk
      dsimp only at hk hs kk ⊢
      refine pk_lt 64 r (fun h => absurd h (by omega)) (fun _ => br_c (fun e0 => ?_) (fun e0 => ?_))
      · rcases hs with hs | hs
        · exact fin k s hk hs.2
        · rw [hs.1] at e0
          exact absurd e0 (by decide)
      · have hs := hs.resolve_left (fun z => e0 z.1)
        refine pk_loop (σ := Nat × Int32 × (Nat → Int32)) (fun q i s => wY_commit_70 post (wY_commit_54 post sl it (nI b) (nI n) (nI f) (nI c) m) (nI r) sl it (nI b) (nI n) (nI f) (nI c) q (nI (1 + s.1)) s.2.1 (nI (i + 1)) s.2.2 lt li lk lv rd sr so mk)
          (fun i s' => gs_Wy b (gs_F f R S) (upd st t 3) s'.1 s'.2.2 ∧ ((s'.2.1 = 0 ∧ s'.2.2 = s ∧ ∀ t, 1 ≤ t → t ≤ i → ¬ gs_Go (gs_F f R S) s t) ∨ (s'.2.1 = 1 ∧ k + 1 ≤ s'.1)) ∧ k ≤ s'.1) b 0 (k, 0, s) (Nat.zero_le b) ?_ ?_ ?_
        · exact ⟨hk, Or.inl ⟨rfl, rfl, fun t g1 g2 => absurd g2 (by omega)⟩, Nat.le_refl k⟩
        · rintro q ⟨k', ch', s'⟩ ⟨g1, g2, g3⟩
          dsimp only at g1 g2 g3 ⊢
          refine pk_lt b (b + 1) (fun _ => nm_r (nI_1 r) (kk (k', ch', s') ⟨g1, ?_⟩)) (fun h => absurd h (by omega))
          rcases g2 with ⟨a1, a2, a3⟩ | ⟨a1, a2⟩
          · exact Or.inl ⟨a1, by show ∀ t, 1 ≤ t → t ≤ b → ¬ gs_Go (gs_F f R S) s' t; rw [a2]; exact a3⟩
          · exact Or.inr ⟨a1, by show r + 1 ≤ k'; omega⟩
        · rintro q i ⟨k', ch', s'⟩ hi ⟨g1, g2, g3⟩ k2
          dsimp only at g1 g2 g3 k2 ⊢
          have icl : (nI (i + 1)).toNatClampNeg = i + 1 := nI_clamp (by omega)
          have iin : vp_in (nI (i + 1)) 65 := vp_in_nI (by omega) (by omega)
          have skip : ¬ gs_Go (gs_F f R S) s' (i + 1) → wY_commit_70 post (wY_commit_54 post sl it (nI b) (nI n) (nI f) (nI c) m) (nI r) sl it (nI b) (nI n) (nI f) (nI c) q (nI (1 + k')) ch' (nI (i + 1 + 1)) (s') lt li lk lv rd sr so mk := by
            intro hg
            refine k2 (k', ch', s') ⟨g1, ?_, g3⟩
            rcases g2 with ⟨a1, a2, a3⟩ | g2
            · refine Or.inl ⟨a1, a2, fun t u1 u2 => ?_⟩
              by_cases et : t = i + 1
              · rw [et, ← a2]
                exact hg
              · exact a3 t u1 (by omega)
            · exact Or.inr g2
          refine pk_lt b (i + 1) (fun h => absurd h (by omega)) (fun _ => ⟨iin, ?_⟩)
          rw [icl]
          refine br_c (fun e2 => ?_) (fun e2 => nm_r (nI_1 (i + 1)) (skip (fun y => e2 y.1)))
          refine yl_awaits hF hf hb (by omega) (fun y => ?_) (fun y => ?_)
          · obtain ⟨w, w1, w2⟩ := y
            exact br_f (by decide) (nm_r (nI_1 (i + 1)) (skip (fun y => y.2 w w1 w2)))
          · exact br_t rfl ⟨iin, nm_e (nm_r (nI_1 (1 + k')) (nm_r (nI_1 (i + 1)) (k2 (k' + 1, 1, upd s' (i + 1) 3) ⟨gs_wyS g1 (by omega) (by omega) ⟨e2, y⟩, Or.inr ⟨rfl, by show k + 1 ≤ k' + 1; omega⟩, by show k ≤ k' + 1; omega⟩)))⟩
theorem yl_begin {post : Int32 → SY → Prop} (hb : b < 64) (p1 : nI (gs_cnt (fun t => gs_op (st t)) b) < sl → post (nI (b + 1)) (sl, it, nI (b + 1), nI n, nI f, nI c, upd st (b + 1) 1, lt, li, lk, lv, rd, sr, so, mk)) (p0 : ¬ nI (gs_cnt (fun t => gs_op (st t)) b) < sl → post (-7) (sl, it, nI b, nI n, nI f, nI c, st, lt, li, lk, lv, rd, sr, so, mk)) : wpY_begin post (sl, it, nI b, nI n, nI f, nI c, st, lt, li, lk, lv, rd, sr, so, mk) := by
  unfold wpY_begin
  dsimp only
  refine pk_lt b 64 (fun _ => ?_) (fun h => absurd h (by omega))
  refine pk_loop (σ := Nat) (fun m i s => wY_begin_16 post sl it (nI b) (nI n) (nI f) (nI c) st lt li lk lv rd sr so mk m (nI s) (nI (i + 1))) (fun i s => s = gs_cnt (fun t => gs_op (st t)) i) b 0 0 (Nat.zero_le b) rfl ?_ ?_
  · intro m s hs
    subst hs
    refine pk_lt b (b + 1) (fun _ => br_c (fun e => ?_) p0) (fun h => absurd h (by omega))
    exact nm_r (nI_1 b) ⟨vp_in_nI (by omega) (by omega), nm_r (e' := upd st (b + 1) 1) (by rw [nI_clamp (show b + 1 < 2 ^ 31 by omega)]) (p1 e)⟩
  · intro m i s hi hs k
    refine pk_lt b (i + 1) (fun h => absurd h (by omega)) (fun _ => ?_)
    refine yo_isOpen (by omega) (fun h => ?_) (fun h => ?_)
    · exact br_f (by decide) (nm_r (nI_1 s) (nm_r (nI_1 (i + 1)) (k (s + 1) (by rw [hs, gs_cnt_t h]))))
    · exact br_t rfl (nm_r (nI_1 (i + 1)) (k s (by rw [hs, gs_cnt_f h])))
end
end
section
/-! the reference: operate, and the calls that only look -/
section
variable {sl it : Int32} {b n f c : Nat} {st lt li lk lv rd sr so mk : Nat → Int32} {T : Nat → Nat} {X K : Nat → Int32} {R S : Nat → Nat}
theorem yp_ref {post : Int32 → SY → Prop} {t x k v : Int32} (hb : b ≤ 64) (hn : n ≤ 128) (h0 : ¬ gs_ref b n it st t x v = 0) (hp : post (gs_ref b n it st t x v) (sl, it, nI b, nI n, nI f, nI c, st, lt, li, lk, lv, rd, sr, so, mk)) : wpY_operate post (sl, it, nI b, nI n, nI f, nI c, st, lt, li, lk, lv, rd, sr, so, mk) t x k v := by
  unfold wpY_operate
  dsimp only
  rcases gs_ref_c (n := n) (it := it) (st := st) t x v hb with ⟨h, e⟩ | ⟨j, h1, h2, rfl, h⟩
  · rw [e] at hp
    exact yo_begun0 h (br_t rfl hp)
  · have hin : vp_in (nI j) 65 := vp_in_nI (by omega) (by omega)
    have hcl : (nI j).toNatClampNeg = j := nI_clamp (by omega)
    refine yo_begun1 h1 h2 hb (br_f (by decide) ⟨hin, ?_⟩)
    rw [hcl]
    rcases h with ⟨h, e⟩ | ⟨hs, h⟩
    · rw [e] at hp
      exact br_f h hp
    · refine br_t hs ?_
      rcases h with ⟨h, e⟩ | ⟨x0, x1, h⟩
      · rw [e] at hp
        by_cases x0 : x < 0
        · exact br_t x0 hp
        · exact br_f x0 (br_f (h.resolve_left x0) hp)
      · refine br_f x0 (br_t x1 ?_)
        rcases h with ⟨h, e⟩ | ⟨v0, v1, h⟩
        · rw [e] at hp
          by_cases v0 : v < 0
          · exact br_t v0 hp
          · exact br_f v0 (br_f (h.resolve_left v0) hp)
        · refine br_f v0 (br_t v1 ?_)
          rcases h with ⟨h, e⟩ | ⟨h, e⟩
          · rw [e] at hp
            exact pk_lt n 128 (fun z => absurd z (by omega)) (fun _ => hp)
          · exact absurd e h0
/-- what the facts are behind a reading of t, whose source would be w -/
def gs_fcN (st : Nat → Int32) (k : Int32) (t w f : Nat) (rd sr : Nat → Int32) (f' : Nat) (rd' sr' : Nat → Int32) : Prop :=
  (¬ (¬ k &&& 1 = 0 ∧ w ≠ 0 ∧ w ≠ t ∧ gs_un (st w)) ∧ f' = f ∧ rd' = rd ∧ sr' = sr) ∨ ((¬ k &&& 1 = 0 ∧ w ≠ 0 ∧ w ≠ t ∧ gs_un (st w)) ∧ f' = f + 1 ∧ rd' = upd rd f (nI t) ∧ sr' = upd sr f (nI w))
theorem yp_op {post : Int32 → SY → Prop} {t w : Nat} {x k v z a cv : Int32} (hL : gs_Lg n b T X K lt li lk) (hn : n < 128) (hb : b ≤ 64) (hc : c ≤ 64) (hF : gs_Fc f b R S rd sr) (hf : f ≤ n) (h1 : 1 ≤ t) (h2 : t ≤ b) (h0 : gs_ref b n it st (nI t) x v = 0)
    {D : Nat → Prop} (hD : D = gs_Dm b (gs_F f R S) st t) {E' : Nat → Nat → Prop} (hE' : E' = gs_E n T X K (gs_abs D st b)) {g : (Nat → Int32) × (Nat → Int32) × Nat} (hg : g = gs_set b E' (64 - c) (gs_abs D st b) so c)
    (hcv : cv = gs_val 0 lv (gs_lst (gs_Wr T X K st x) n)) (hw : w = gs_wrt T (gs_lst (gs_Wr T X K st x) n)) (hz : (k = 3 → z = (cv + v) - (cv + v) / 1000 * 1000) ∧ (¬ k = 3 → z = v)) (ha : (k = 1 → a = cv) ∧ (k = 3 → a = z) ∧ (¬ k = 1 → ¬ k = 3 → a = 0))
    (pC : gs_Pl (gs_E (n + 1) (gs_apN T n t) (upd X n x) (upd K n k) st) t t → ∀ mk, post (-6) (sl, it, nI b, nI n, nI f, nI (g.2.2), g.1, upd lt n (nI t), upd li n x, upd lk n k, upd lv n z, rd, sr, g.2.1, mk))
    (pG : ¬ gs_Pl (gs_E (n + 1) (gs_apN T n t) (upd X n x) (upd K n k) st) t t → ∀ mk f' rd' sr', gs_fcN st k t w f rd sr f' rd' sr' →
      post a (sl, it, nI b, nI (n + 1), nI (f'), nI c, st, upd lt n (nI t), upd li n x, upd lk n k, upd lv n z, rd', sr', so, mk)) : wpY_operate post (sl, it, nI b, nI n, nI f, nI c, st, lt, li, lk, lv, rd, sr, so, mk) (nI t) x k v := by
  have hin : vp_in (nI t) 65 := vp_in_nI (by omega) (by omega)
  have hcl : (nI t).toNatClampNeg = t := nI_clamp (by omega)
  have nin : vp_in (nI n) 128 := vp_in_nI (by omega) (by omega)
  have ncl : (nI n).toNatClampNeg = n := nI_clamp (by omega)
  have fin : vp_in (nI f) 128 := vp_in_nI (by omega) (by omega)
  have fcl : (nI f).toNatClampNeg = f := nI_clamp (by omega)
  have hwb := gs_wrt_in (P := gs_Wr T X K st x) hL
  rw [← hw] at hwb
  have hgo : st t = 1 ∧ ¬ x < 0 ∧ x < it ∧ ¬ v < 0 ∧ v ≤ 999 := by
    rcases gs_ref_c (n := n) (it := it) (st := st) (nI t) x v hb with ⟨_, e⟩ | ⟨j, j1, j2, ej, h⟩
    · rw [h0] at e
      exact absurd e (by decide)
    · have ej : t = j := (nI_eq (by omega) (by omega)).mp ej
      subst ej
      rcases h with ⟨_, e⟩ | ⟨hs, ⟨_, e⟩ | ⟨x0, x1, ⟨_, e⟩ | ⟨v0, v1, _⟩⟩⟩
      · rw [h0] at e
        exact absurd e (by decide)
      · rw [h0] at e
        exact absurd e (by decide)
      · rw [h0] at e
        exact absurd e (by decide)
      · exact ⟨hs, x0, x1, v0, v1⟩
  have h277 : ¬ gs_Pl (gs_E (n + 1) (gs_apN T n t) (upd X n x) (upd K n k) st) t t → ∀ mk f' rd' sr', gs_fcN st k t w f rd sr f' rd' sr' →
      wY_operate_277 post k cv z sl it (nI b) (nI (n + 1)) (nI (f')) (nI c) st (upd lt n (nI t)) (upd li n x) (upd lk n k) (upd lv n z) (rd') (sr') so mk := by
    intro hp mk f' rd' sr' hfc
    have q := pG hp mk f' rd' sr' hfc
    unfold wY_operate_277
    refine br_c (fun e => ?_) (fun e1 => br_c (fun e => ?_) (fun e => ?_))
    · rw [ha.1 e] at q
      exact q
    · rw [ha.2.1 e] at q
      exact q
    · rw [ha.2.2 e1 e] at q
      exact q
  have h129 : ∀ y, y = z → wY_operate_129 post (nI t) x k cv (nI w) y sl it (nI b) (nI n) (nI f) (nI c) st lt li lk lv rd sr so mk := by
    rintro y rfl
    unfold wY_operate_129
    rw [ncl]
    refine ⟨nin, nm_e ⟨nin, nm_e ⟨nin, nm_e ⟨nin, nm_e (nm_r (nI_1 n) ?_)⟩⟩⟩⟩
    refine yl_path (gs_Lg_app hL h1 h2) (by omega) hb (by omega) (by omega) (fun hp mk => ?_) (fun hp mk => ?_)
    · refine br_f (by decide) (nm_r (nI_pred n) ?_)
      exact yl_abort (gs_Lg_keep hL _ _ _) (by omega) hb hc hF (by omega) h1 h2 hD hE' hg (pC hp)
    · have h77 := h277 hp mk
      have no : ¬ (¬ k &&& 1 = 0 ∧ w ≠ 0 ∧ w ≠ t ∧ gs_un (st w)) → wY_operate_277 post k cv y sl it (nI b) (nI (n + 1)) (nI f) (nI c) st (upd lt n (nI t)) (upd li n x) (upd lk n k) (upd lv n y) rd sr so mk := fun hx => h77 f rd sr (Or.inl ⟨hx, rfl, rfl, rfl⟩)
      refine br_t rfl (br_c (fun e => no (fun q => q.1 e)) (fun ek => ?_))
      refine pk_eq w 0 (fun e => no (fun q => q.2.1 e)) (fun e => ?_)
      refine pk_eq w t (fun e' => no (fun q => q.2.2.1 e')) (fun e' => ?_)
      refine yo_isUnf (by omega) (fun u => br_f (by decide) ?_) (fun u => br_t rfl (no (fun q => u q.2.2.2)))
      refine pk_le 128 f (fun h => absurd h (by omega)) (fun _ => ?_)
      rw [fcl]
      exact ⟨fin, nm_e ⟨fin, nm_e (nm_r (nI_1 f) (h77 (f + 1) _ _ (Or.inr ⟨⟨ek, e, e', u⟩, rfl, rfl, rfl⟩)))⟩⟩
  have h108 : wY_operate_108 post (nI t) x k v cv (nI w) sl it (nI b) (nI n) (nI f) (nI c) st lt li lk lv rd sr so mk := by
    unfold wY_operate_108
    exact br_c (fun e => ⟨by decide, h129 _ (hz.1 e).symm⟩) (fun e => h129 _ (hz.2 e).symm)
  unfold wpY_operate
  dsimp only
  refine yo_begun1 h1 h2 hb (br_f (by decide) ⟨hin, ?_⟩)
  rw [hcl]
  refine br_t hgo.1 (br_f hgo.2.1 (br_t hgo.2.2.1 (br_f hgo.2.2.2.1 (br_t hgo.2.2.2.2 (pk_lt n 128 (fun _ => ?_) (fun h => absurd h (by omega)))))))
  rw [hcv, hw] at h108
  refine yl_lastWrite hL (by omega) hb (fun e => ?_) (fun i e => ?_)
  · rw [e] at h108
    refine br_t (by decide) ?_
    unfold wY_operate_90
    exact br_t (by decide) h108
  · have hi := (gs_lst_in e).1
    rw [e] at h108
    have iin : vp_in (nI i) 128 := vp_in_nI (by omega) (by omega)
    have icl : (nI i).toNatClampNeg = i := nI_clamp (by omega)
    refine br_f (nI_pos (by omega)) ⟨iin, ?_⟩
    unfold wY_operate_90
    rw [icl, (hL i hi).1]
    exact br_f (nI_pos (by omega)) ⟨iin, h108⟩
theorem yp_settledValue {post : Int32 → Prop} {x : Int32} (hL : gs_Lg n b T X K lt li lk) (hn : n ≤ 128) (hb : b ≤ 64) (x0 : ¬ x < 0) (x1 : x < it) (hp : post (gs_val 0 lv (gs_lst (gs_Ws T X K st x) n))) : wpY_settledValue post (sl, it, nI b, nI n, nI f, nI c, st, lt, li, lk, lv, rd, sr, so, mk) x := by
  unfold wpY_settledValue
  dsimp only
  refine br_f x0 (br_t x1 (nm_e ⟨n + 1, ?_⟩))
  refine pk_loopD (σ := Unit) (fun m i _ => wY_settledValue_22 post x sl it (nI b) (nI n) (nI f) (nI c) st lt li lk lv rd sr so mk m (nI i - 1)) (fun i _ => i ≤ n ∧ gs_lst (gs_Ws T X K st x) i = gs_lst (gs_Ws T X K st x) n) ?_ ?_ n () ⟨Nat.le_refl n, rfl⟩
  · intro m _ h
    rw [← h.2] at hp
    exact br_t gs_dn0 hp
  · intro m i _ h k
    rw [nI_pred]
    have hi := hL i (by omega)
    have hin : vp_in (nI i) 128 := vp_in_nI (by omega) (by omega)
    have hcl : (nI i).toNatClampNeg = i := nI_clamp (by omega)
    have hct : (nI (T i)).toNatClampNeg = T i := nI_clamp (by omega)
    refine br_f (nI_pos (by omega)) ⟨hin, ?_⟩
    rw [hcl, hi.1, hi.2.2.2.1, hi.2.2.2.2, hct]
    refine br_c (fun a => ⟨hin, br_c (fun d => ?_) (fun d => ⟨hin, vp_in_nI (by omega) (by omega), br_c (fun z => ?_) (fun z => ?_)⟩)⟩) (fun a => ?_)
    · rw [gs_lst_f (fun y => y.1.2 d)] at h
      exact nm_r (gs_dn i) (k () ⟨by omega, h.2⟩)
    · rw [gs_lst_t ⟨⟨a, d⟩, z⟩] at h
      rw [← h.2] at hp
      exact ⟨hin, hp⟩
    · rw [gs_lst_f (fun y => z y.2)] at h
      exact nm_r (gs_dn i) (k () ⟨by omega, h.2⟩)
    · rw [gs_lst_f (fun y => a y.1.1)] at h
      exact nm_r (gs_dn i) (k () ⟨by omega, h.2⟩)
theorem yp_access {post : Int32 → Prop} {t : Nat} {x : Int32} (hL : gs_Lg n b T X K lt li lk) (hn : n ≤ 128) (hb : b ≤ 64) (h1 : 1 ≤ t) (h2 : t ≤ b) (ho : gs_op (st t)) (x0 : ¬ x < 0) (x1 : x < it) (hp : post (gs_acc T X K t x n)) : wpY_access post (sl, it, nI b, nI n, nI f, nI c, st, lt, li, lk, lv, rd, sr, so, mk) (nI t) x := by
  unfold wpY_access
  dsimp only
  refine yo_begun1 h1 h2 hb (br_f (by decide) (yo_isOpen (by omega) (fun _ => br_f (by decide) (br_f x0 (br_t x1 ?_))) (fun z => absurd ho z)))
  refine pk_loop (σ := Int32) (fun m i s => wY_access_41 post (nI t) x sl it (nI b) (nI n) (nI f) (nI c) st lt li lk lv rd sr so mk m s (nI i)) (fun i s => s = gs_acc T X K t x i) n 0 0 (Nat.zero_le n) rfl ?_ ?_
  · intro m s hs
    subst hs
    exact pk_le n n (fun _ => hp) (fun h => absurd h (by omega))
  · intro m i s hi hs k
    subst hs
    have h := hL i hi
    have hin : vp_in (nI i) 128 := vp_in_nI (by omega) (by omega)
    have hcl : (nI i).toNatClampNeg = i := nI_clamp (by omega)
    refine pk_le n i (fun h => absurd h (by omega)) (fun _ => ⟨hin, ?_⟩)
    rw [hcl, h.1, h.2.2.2.1, h.2.2.2.2]
    refine pk_eq (T i) t (fun e => ⟨hin, br_c (fun ex => ⟨hin, nm_e (nm_r (nI_1 i) (k _ (gs_acc_t ⟨e, ex⟩)))⟩) (fun ex => nm_r (nI_1 i) (k _ (gs_acc_f (fun z => ex z.2))))⟩) (fun e => nm_r (nI_1 i) (k _ (gs_acc_f (fun z => e z.1))))
theorem yp_written {post : Int32 → Prop} {t : Nat} {x : Int32} (hL : gs_Lg n b T X K lt li lk) (hn : n ≤ 128) (hb : b ≤ 64) (h1 : 1 ≤ t) (h2 : t ≤ b) (ho : gs_op (st t)) (x0 : ¬ x < 0) (x1 : x < it) (hp : post (gs_val (-10) lv (gs_lst (gs_Wt T X K t x) n))) : wpY_written post (sl, it, nI b, nI n, nI f, nI c, st, lt, li, lk, lv, rd, sr, so, mk) (nI t) x := by
  unfold wpY_written
  dsimp only
  refine yo_begun1 h1 h2 hb (br_f (by decide) (yo_isOpen (by omega) (fun _ => br_f (by decide) (br_f x0 (br_t x1 (nm_e ⟨n + 1, ?_⟩)))) (fun z => absurd ho z)))
  refine pk_loopD (σ := Unit) (fun m i _ => wY_written_43 post (nI t) x sl it (nI b) (nI n) (nI f) (nI c) st lt li lk lv rd sr so mk m (nI i - 1)) (fun i _ => i ≤ n ∧ gs_lst (gs_Wt T X K t x) i = gs_lst (gs_Wt T X K t x) n) ?_ ?_ n () ⟨Nat.le_refl n, rfl⟩
  · intro m _ h
    rw [← h.2] at hp
    exact br_t gs_dn0 hp
  · intro m i _ h k
    rw [nI_pred]
    have hi := hL i (by omega)
    have hin : vp_in (nI i) 128 := vp_in_nI (by omega) (by omega)
    have hcl : (nI i).toNatClampNeg = i := nI_clamp (by omega)
    refine br_f (nI_pos (by omega)) ⟨hin, ?_⟩
    rw [hcl, hi.1, hi.2.2.2.1, hi.2.2.2.2]
    refine pk_eq (T i) t (fun e => ⟨hin, br_c (fun a => ⟨hin, br_c (fun d => ?_) (fun d => ?_)⟩) (fun a => ?_)⟩) (fun e => ?_)
    · rw [gs_lst_f (fun y => y.2.2 d)] at h
      exact nm_r (gs_dn i) (k () ⟨by omega, h.2⟩)
    · rw [gs_lst_t ⟨e, a, d⟩] at h
      rw [← h.2] at hp
      exact ⟨hin, hp⟩
    · rw [gs_lst_f (fun y => a y.2.1)] at h
      exact nm_r (gs_dn i) (k () ⟨by omega, h.2⟩)
    · rw [gs_lst_f (fun y => e y.1)] at h
      exact nm_r (gs_dn i) (k () ⟨by omega, h.2⟩)
theorem yp_waitsFor {post : Int32 → Prop} {t u : Nat} (hF : gs_Fc f b R S rd sr) (hf : f ≤ 128) (hb : b ≤ 64) (h1 : 1 ≤ t) (h2 : t ≤ b) (u1 : 1 ≤ u) (u2 : u ≤ b) (ho : gs_op (st t)) (hu : gs_op (st u))
    (p1 : gs_F f R S t u ∧ gs_un (st u) → post 1) (p0 : ¬ (gs_F f R S t u ∧ gs_un (st u)) → post 0) : wpY_waitsFor post (sl, it, nI b, nI n, nI f, nI c, st, lt, li, lk, lv, rd, sr, so, mk) (nI t) (nI u) := by
  unfold wpY_waitsFor
  dsimp only
  refine yo_begun1 h1 h2 hb (br_f (by decide) (yo_begun1 u1 u2 hb (br_f (by decide) (yo_isOpen (by omega) (fun _ => br_f (by decide) (yo_isOpen (by omega) (fun _ => br_f (by decide) ?_) (fun z => absurd hu z))) (fun z => absurd ho z)))))
  refine pk_loop (σ := Unit) (fun m i _ => wY_waitsFor_39 post (nI t) (nI u) sl it (nI b) (nI n) (nI f) (nI c) st lt li lk lv rd sr so mk m (nI i)) (fun i _ => ∀ j, j < i → R j = t → S j = u → ¬ gs_un (st u)) f 0 () (Nat.zero_le f) (fun j h => absurd h (by omega)) ?_ ?_
  · intro m _ hs
    refine pk_le f f (fun _ => p0 ?_) (fun h => absurd h (by omega))
    rintro ⟨⟨j, hj, e1, e2⟩, hun⟩
    exact hs j hj e1 e2 hun
  · intro m i _ hi hs k
    have h := hF i hi
    have iin : vp_in (nI i) 128 := vp_in_nI (by omega) (by omega)
    have icl : (nI i).toNatClampNeg = i := nI_clamp (by omega)
    have skip : (R i = t → S i = u → ¬ gs_un (st u)) → wY_waitsFor_39 post (nI t) (nI u) sl it (nI b) (nI n) (nI f) (nI c) st lt li lk lv rd sr so mk m (nI (i + 1)) := by
      intro hx
      refine k () (fun j g1 g2 g3 => ?_)
      by_cases ej : j = i
      · subst ej
        exact hx g2 g3
      · exact hs j (by omega) g2 g3
    refine pk_le f i (fun h => absurd h (by omega)) (fun _ => ⟨iin, ?_⟩)
    rw [icl, h.1, h.2.1]
    refine pk_eq (R i) t (fun e => ⟨iin, pk_eq (S i) u (fun e' => ?_) (fun e' => nm_r (nI_1 i) (skip (fun _ z => absurd z e')))⟩) (fun e => nm_r (nI_1 i) (skip (fun z => absurd z e)))
    exact yo_isUnf (by omega) (fun y => br_f (by decide) (p1 ⟨⟨i, hi, e, e'⟩, y⟩)) (fun y => br_t rfl (nm_r (nI_1 i) (skip (fun _ _ => y))))
end
end
section
/-! the relation and what keeps it -/
def gs_Inv (b n c f : Nat) (st : Nat → Int32) (pr rf : Nat → Int64) (T : Nat → Nat) (X K lt li lk lv lt' li' lk' lv' : Nat → Int32) (R S : Nat → Nat) (rd sr : Nat → Int32) : Prop :=
  b ≤ 64 ∧ n ≤ 128 ∧ c ≤ 64 ∧ f ≤ n ∧ gs_Lg n b T X K lt li lk ∧ gs_Lg n b T X K lt' li' lk' ∧ (∀ j, j < n → ¬ K j &&& 2 = 0 → lv j = lv' j) ∧ gs_Fc f b R S rd sr ∧ gs_PE pr (gs_E n T X K st) ∧ gs_RF rf (gs_F f R S) ∧ (∀ z, ¬ gs_Pl (gs_E n T X K st) z z)
def i_Rel (_ : Nat) (u : SX) (v : SY) : Prop := ∃ (sl it : Int32) (b n c f : Nat) (st so : Nat → Int32) (pr rf : Nat → Int64) (T : Nat → Nat) (X K lt li lk lv lt' li' lk' lv' : Nat → Int32) (R S : Nat → Nat) (rd sr mk : Nat → Int32),
  u = (sl, it, nI b, nI n, nI c, st, pr, rf, lt, li, lk, lv, so) ∧ v = (sl, it, nI b, nI n, nI f, nI c, st, lt', li', lk', lv', rd, sr, so, mk) ∧ gs_Inv b n c f st pr rf T X K lt li lk lv lt' li' lk' lv' R S rd sr
theorem i_up {k : Nat} {u : SX} {v : SY} (h : i_Rel k u v) : i_Rel (k + 4) u v := h
section
variable {sl it : Int32} {b n c f : Nat} {st so : Nat → Int32} {pr rf : Nat → Int64} {T : Nat → Nat} {X K lt li lk lv lt' li' lk' lv' : Nat → Int32} {R S : Nat → Nat} {rd sr mk : Nat → Int32}
theorem gs_mkRel {k : Nat} (h : gs_Inv b n c f st pr rf T X K lt li lk lv lt' li' lk' lv' R S rd sr) : i_Rel k (sl, it, nI b, nI n, nI c, st, pr, rf, lt, li, lk, lv, so) (sl, it, nI b, nI n, nI f, nI c, st, lt', li', lk', lv', rd, sr, so, mk) :=
  ⟨sl, it, b, n, c, f, st, so, pr, rf, T, X, K, lt, li, lk, lv, lt', li', lk', lv', R, S, rd, sr, mk, rfl, rfl, h⟩
theorem gs_Eb (hL : gs_Lg n b T X K lt li lk) (s t : Nat) (h : gs_E n T X K st s t) : (1 ≤ s ∧ s ≤ b) ∧ (1 ≤ t ∧ t ≤ b) := ⟨(gs_E_in hL h).1, (gs_E_in hL h).2.1⟩
theorem gs_Fb (hF : gs_Fc f b R S rd sr) (t w : Nat) (h : gs_F f R S t w) : 1 ≤ w ∧ w ≤ b := by
  obtain ⟨i, hi, _, rfl⟩ := h
  exact (hF i hi).2.2.2
theorem gs_E_cb {st' : Nat → Int32} (hL : gs_Lg n b T X K lt li lk) (h : ∀ s, 1 ≤ s → s ≤ b → (st s = 5 ↔ st' s = 5)) (s t : Nat) : gs_E n T X K st s t ↔ gs_E n T X K st' s t := by
  unfold gs_E gs_Ed
  constructor
  · rintro ⟨i, j, a, d, e, e', e1, e2, e3, e4, e5⟩
    have hi := hL i (by omega)
    have hj := hL j d
    exact ⟨i, j, a, d, e, e', e1, e2, e3, fun z => e4 ((h _ hi.2.1 hi.2.2.1).mpr z), fun z => e5 ((h _ hj.2.1 hj.2.2.1).mpr z)⟩
  · rintro ⟨i, j, a, d, e, e', e1, e2, e3, e4, e5⟩
    have hi := hL i (by omega)
    have hj := hL j d
    exact ⟨i, j, a, d, e, e', e1, e2, e3, fun z => e4 ((h _ hi.2.1 hi.2.2.1).mp z), fun z => e5 ((h _ hj.2.1 hj.2.2.1).mp z)⟩
theorem gs_EA_eq {D : Nat → Prop} (hD : ∀ j, D j → 1 ≤ j ∧ j ≤ b) : gs_E n T X K (gs_abs D st b) = gs_EA (gs_E n T X K st) D :=
  funext fun s => funext fun t => propext (gs_E_ab (gs_abs_5 hD) s t)
theorem gs_Inv_st {st' : Nat → Int32} {c' : Nat} (h : gs_Inv b n c f st pr rf T X K lt li lk lv lt' li' lk' lv' R S rd sr) (hc : c' ≤ 64) (hs : ∀ s, st' s = 5 ↔ st s = 5) : gs_Inv b n c' f st' pr rf T X K lt li lk lv lt' li' lk' lv' R S rd sr := by
  obtain ⟨hb, hn, _, hf, hL, hL', hV, hF, hE, hRF, hA⟩ := h
  have e : gs_E n T X K st = gs_E n T X K st' := funext fun s => funext fun t => propext (gs_E_c (fun s => (hs s).symm) s t)
  exact ⟨hb, hn, hc, hf, hL, hL', hV, hF, e ▸ hE, hRF, e ▸ hA⟩
theorem gs_Inv_ab {lt2 li2 lk2 lv2 : Nat → Int32} {p : Nat → Int64} {t : Nat} {D : Nat → Prop} {E' : Nat → Nat → Prop} {g : (Nat → Int32) × (Nat → Int32) × Nat} (h : gs_Inv b n c f st pr rf T X K lt li lk lv lt' li' lk' lv' R S rd sr)
    (h1 : 1 ≤ t) (h2 : t ≤ b) (hD : D = gs_Dm b (gs_F f R S) st t) (hE' : E' = gs_E n T X K (gs_abs D st b)) (hg : g = gs_set b E' (64 - c) (gs_abs D st b) so c) (hp : gs_PE p E')
    (hL2 : gs_Lg n b T X K lt2 li2 lk2) (hV2 : ∀ j, j < n → ¬ K j &&& 2 = 0 → lv j = lv2 j) : gs_Inv b n g.2.2 f g.1 p rf T X K lt li lk lv lt2 li2 lk2 lv2 R S rd sr := by
  obtain ⟨hb, hn, hc, hf, hL, hL', hV, hF, hE, hRF, hA⟩ := h
  have hDb : ∀ j, D j → 1 ≤ j ∧ j ≤ b := by rw [hD]; exact gs_Dm_in h1 h2
  have q := gs_set_ab b E' (64 - c) (gs_abs D st b) so c
  rw [← hg] at q
  have e : gs_E n T X K g.1 = E' := by
    rw [hE']
    exact funext fun s => funext fun t => propext (gs_E_c q.1 s t)
  refine ⟨hb, hn, by have := q.2; omega, hf, hL, hL2, hV2, hF, by rw [e]; exact hp, hRF, ?_⟩
  rw [e, hE', gs_EA_eq hDb]
  exact gs_acm (fun s u z => z.1) hA
theorem gs_val_eq {d : Int32} {P : Nat → Prop} (hV : ∀ j, j < n → ¬ K j &&& 2 = 0 → lv j = lv' j) (hP : ∀ i, P i → ¬ K i &&& 2 = 0) : gs_val d lv (gs_lst P n) = gs_val d lv' (gs_lst P n) := by
  cases e : gs_lst P n with
  | zero => rfl
  | succ i => exact hV i (gs_lst_in e).1 (hP i (gs_lst_in e).2)
theorem gs_Inv_op {t w : Nat} {x k a z : Int32} {m : Int64} {r : Nat → Int64} {f' : Nat} {rd' sr' : Nat → Int32} (h : gs_Inv b n c f st pr rf T X K lt li lk lv lt' li' lk' lv' R S rd sr) (hn : n < 128) (h1 : 1 ≤ t) (h2 : t ≤ b) (hs : ¬ st t = 5)
    (hm : ∀ s, gs_m m s ↔ gs_Cf n T X K st t x k s) (hcy : ¬ gs_Bk (gs_Cf n T X K st t x k) (gs_E n T X K st) t) (haz : ¬ k &&& 2 = 0 → a = z) (hw : w = 0 ∨ (1 ≤ w ∧ w ≤ b))
    (hr : (¬ k &&& 1 = 0 ∧ gs_rfN st rf t w r) ∨ (k &&& 1 = 0 ∧ r = rf)) (hfc : gs_fcN st k t w f rd sr f' rd' sr') :
    ∃ R' S', gs_Inv b (n + 1) c f' st (vp_updL pr t (pr t ||| m)) r (gs_apN T n t) (upd X n x) (upd K n k) (upd lt n (nI t)) (upd li n x) (upd lk n k) (upd lv n a) (upd lt' n (nI t)) (upd li' n x) (upd lk' n k) (upd lv' n z) R' S' rd' sr' := by
  obtain ⟨hb, _, hc, hf, hL, hL', hV, hF, hE, hRF, hA⟩ := h
  have hV' : ∀ j, j < n + 1 → ¬ upd K n k j &&& 2 = 0 → upd lv n a j = upd lv' n z j := by
    intro j hj hk
    by_cases e : j = n
    · subst e
      rw [pk_us] at hk
      rw [pk_us, pk_us]
      exact haz hk
    · rw [pk_un e] at hk
      rw [pk_un e, pk_un e]
      exact hV j (by omega) hk
  have hE2 := gs_PE_app hE hs h1 (by omega) hm
  have hA2 := gs_acy (gs_E_app (X := X) (K := K) (n := n) (T := T) (x := x) (k := k) hs) hA hcy
  rcases hfc with ⟨hx, rfl, rfl, rfl⟩ | ⟨hx, rfl, rfl, rfl⟩
  · have er : r = rf := by
      rcases hr with ⟨q, hr⟩ | ⟨_, hr⟩
      · rcases hr with ⟨_, hr⟩ | ⟨hy, _⟩
        · exact hr
        · exact absurd ⟨q, hy⟩ hx
      · exact hr
    subst er
    exact ⟨R, S, hb, by omega, hc, by omega, gs_Lg_app hL h1 h2, gs_Lg_app hL' h1 h2, hV', hF, hE2, hRF, hA2⟩
  · have er : r = vp_updL rf t (rf t ||| gs_bit w) := by
      rcases hr with ⟨_, hr⟩ | ⟨q, _⟩
      · rcases hr with ⟨hy, _⟩ | ⟨_, hr⟩
        · exact absurd hx.2 hy
        · exact hr
      · exact absurd q hx.1
    subst er
    have hwb := hw.resolve_left hx.2.1
    exact ⟨gs_apN R f t, gs_apN S f w, hb, by omega, hc, by omega, gs_Lg_app hL h1 h2, gs_Lg_app hL' h1 h2, hV', gs_Fc_app hF ⟨h1, h2⟩ hwb, hE2, gs_RF_app hRF (fun s => gs_m_bit hwb.1 (by omega) s), hA2⟩
end
theorem gs_ref_go {b n : Nat} {it : Int32} {st : Nat → Int32} {t x v : Int32} (hb : b ≤ 64) (h0 : gs_ref b n it st t x v = 0) : ∃ j, 1 ≤ j ∧ j ≤ b ∧ t = nI j ∧ st j = 1 ∧ n < 128 := by
  rcases gs_ref_c (n := n) (it := it) (st := st) t x v hb with ⟨_, e⟩ | ⟨j, j1, j2, ej, h⟩
  · rw [h0] at e
    exact absurd e (by decide)
  · refine ⟨j, j1, j2, ej, ?_⟩
    rcases h with ⟨_, e⟩ | ⟨hs, ⟨_, e⟩ | ⟨x0, x1, ⟨_, e⟩ | ⟨v0, v1, ⟨_, e⟩ | ⟨hn, _⟩⟩⟩⟩
    · rw [h0] at e
      exact absurd e (by decide)
    · rw [h0] at e
      exact absurd e (by decide)
    · rw [h0] at e
      exact absurd e (by decide)
    · rw [h0] at e
      exact absurd e (by decide)
    · exact ⟨hs, hn⟩
/-! construction -/
def gs_cl (p q r : Int32) : Int32 := if q ≤ p then (if p ≤ r then p else r) else q
theorem xc_clamp {post : Int32 → Prop} {p q r : Int32} (hp : post (gs_cl p q r)) : wpX_clamp post p q r := by
  unfold gs_cl at hp
  unfold wpX_clamp
  refine br_c (fun e => ?_) (fun e => ?_)
  · rw [if_pos e] at hp
    refine br_c (fun e' => ?_) (fun e' => ?_)
    · rw [if_pos e'] at hp
      exact hp
    · rw [if_neg e'] at hp
      exact hp
  · rw [if_neg e] at hp
    exact hp
theorem yc_init {post : SY → Prop} {p q : Int32} (hp : post (gs_cl p 2 16, gs_cl q 1 8, 0, 0, 0, 0, (fun _ => 0), (fun _ => 0), (fun _ => 0), (fun _ => 0), (fun _ => 0), (fun _ => 0), (fun _ => 0), (fun _ => 0), (fun _ => 0))) : wpY_init post p q := by
  have h : ∀ z, z = gs_cl p 2 16 → wY_init_104 post q z 0 0 0 0 0 0 (fun _ => 0) (fun _ => 0) (fun _ => 0) (fun _ => 0) (fun _ => 0) (fun _ => 0) (fun _ => 0) (fun _ => 0) (fun _ => 0) := by
    rintro z rfl
    unfold wY_init_104
    generalize gs_cl p 2 16 = y at hp
    unfold gs_cl at hp
    refine br_c (fun e => ?_) (fun e => ?_)
    · rw [if_pos e] at hp
      refine br_c (fun e' => ?_) (fun e' => ?_)
      · rw [if_pos e'] at hp
        exact hp
      · rw [if_neg e'] at hp
        exact hp
    · rw [if_neg e] at hp
      exact hp
  unfold wpY_init
  unfold gs_cl at h
  refine br_c (fun e => ?_) (fun e => ?_)
  · refine br_c (fun e' => ?_) (fun e' => ?_)
    · exact h p (by rw [if_pos e, if_pos e'])
    · exact h 16 (by rw [if_pos e, if_neg e'])
  · exact h 2 (by rw [if_neg e])
theorem gs_Inv_0 : gs_Inv 0 0 0 0 (fun _ => 0) (fun _ => 0) (fun _ => 0) (fun _ => 0) (fun _ => 0) (fun _ => 0) (fun _ => 0) (fun _ => 0) (fun _ => 0) (fun _ => 0) (fun _ => 0) (fun _ => 0) (fun _ => 0) (fun _ => 0) (fun _ => 0) (fun _ => 0) (fun _ => 0) (fun _ => 0) := by
  have nE : ∀ s t, ¬ gs_E 0 (fun _ => 0) (fun _ => 0) (fun _ => 0) (fun _ => 0) s t := fun s t ⟨i, j, _, hj, _⟩ => absurd hj (by omega)
  refine ⟨by omega, by omega, by omega, by omega, fun j h => absurd h (by omega), fun j h => absurd h (by omega), fun j h => absurd h (by omega), fun j h => absurd h (by omega), fun t _ _ s => ⟨fun h => absurd h (gs_m_0 s), fun h => absurd h (nE s t)⟩, fun t _ _ s => ⟨fun h => absurd h (gs_m_0 s), fun ⟨i, hi, _⟩ => absurd hi (by omega)⟩, ?_⟩
  intro z h
  exact gs_L_i (A := fun _ => False) (fun c hc => nE _ _ hc) (fun _ _ h _ => h) h
theorem i_vc0 (k0 : Int32) (k1 : Int32) : wpX_init (fun u => wpY_init (fun v => i_Rel 2 u v) k0 k1) k0 k1 := by
  unfold wpX_init
  exact xc_clamp (xc_clamp (yc_init (gs_mkRel (b := 0) (n := 0) (c := 0) (f := 0) gs_Inv_0)))
end
section
/-! the calls that change something -/
theorem xp_begin {sl it : Int32} {b n c : Nat} {st : Nat → Int32} {pr rf : Nat → Int64} {lt li lk lv so : Nat → Int32} {post : Int32 → SX → Prop} (hb : b < 64) (p1 : nI (gs_cnt (fun t => gs_op (st t)) b) < sl → post (nI (b + 1)) (sl, it, nI (b + 1), nI n, nI c, upd st (b + 1) 1, pr, rf, lt, li, lk, lv, so)) (p0 : ¬ nI (gs_cnt (fun t => gs_op (st t)) b) < sl → post (-7) (sl, it, nI b, nI n, nI c, st, pr, rf, lt, li, lk, lv, so)) : wpX_begin post (sl, it, nI b, nI n, nI c, st, pr, rf, lt, li, lk, lv, so) := by
  unfold wpX_begin
  dsimp only
  refine pk_lt b 64 (fun _ => ?_) (fun h => absurd h (by omega))
  refine xo_countOpen (by omega) (br_c (fun e => ?_) p0)
  exact nm_r (nI_1 b) ⟨vp_in_nI (by omega) (by omega), nm_r (e' := upd st (b + 1) 1) (by rw [nI_clamp (show b + 1 < 2 ^ 31 by omega)]) (p1 e)⟩
theorem i_vc_begin {k : Nat} {u : SX} {v : SY} (I : i_Rel k u v) (hk : k + 4 ≤ 2050) : wpX_begin (fun r u' => wpY_begin (fun r' v' => r' = r ∧ i_Rel (k + 4) u' v') v) u := by
  obtain ⟨sl, it, b, n, c, f, st, so, pr, rf, T, X, K, lt, li, lk, lv, lt', li', lk', lv', R, S, rd, sr, mk, rfl, rfl, hI⟩ := I
  have hI0 := hI
  obtain ⟨hb, hn, hc, hf, hL, hL', hV, hF, hE, hRF, hA⟩ := hI
  by_cases h64 : b < 64
  · refine xp_begin h64 (fun e => yl_begin h64 (fun _ => ⟨rfl, ?_⟩) (fun z => absurd e z)) (fun e => yl_begin h64 (fun z => absurd z e) (fun _ => ⟨rfl, gs_mkRel hI0⟩))
    have eE : gs_E n T X K st = gs_E n T X K (upd st (b + 1) 1) := funext fun s => funext fun t => propext (gs_E_cb hL (fun s _ h2 => by rw [pk_un (by omega)]) s t)
    exact gs_mkRel (b := b + 1) ⟨by omega, hn, hc, hf, gs_Lg_b hL, gs_Lg_b hL', hV, gs_Fc_b hF, eE ▸ hE, hRF, eE ▸ hA⟩
  · unfold wpX_begin wpY_begin
    dsimp only
    exact pk_lt b 64 (fun h => absurd h h64) (fun _ => pk_lt b 64 (fun h => absurd h h64) (fun _ => ⟨rfl, gs_mkRel hI0⟩))
theorem i_vc_read {k : Nat} {u : SX} {v : SY} (I : i_Rel k u v) (hk : k + 4 ≤ 2050) (v1 : Int32) (v2 : Int32) : wpX_read (fun r u' => wpY_read (fun r' v' => r' = r ∧ i_Rel (k + 4) u' v') v v1 v2) u v1 v2 := by
  obtain ⟨sl, it, b, n, c, f, st, so, pr, rf, T, X, K, lt, li, lk, lv, lt', li', lk', lv', R, S, rd, sr, mk, rfl, rfl, hI⟩ := I
  have hI0 := hI
  obtain ⟨hb, hn, hc, hf, hL, hL', hV, hF, hE, hRF, hA⟩ := hI
  by_cases h0 : gs_ref b n it st v1 v2 0 = 0
  · obtain ⟨t, h1, h2, rfl, hs, hn'⟩ := gs_ref_go hb h0
    have h5 : ¬ st t = 5 := by rw [hs]; decide
    have hcv := gs_val_eq (d := 0) (P := gs_Wr T X K st v2) (n := n) hV (fun i q => q.1.2)
    have hcy := gs_cyc (gs_E_app (X := X) (K := K) (n := n) (T := T) (x := v2) (k := 1) h5) hA
    have hDb : ∀ j, gs_Dm b (gs_F f R S) st t j → 1 ≤ j ∧ j ≤ b := gs_Dm_in h1 h2
    refine xp_read hb hc hn' hL hE (gs_Eb hL) hRF h1 h2 h0 rfl (gs_EA_eq hDb) rfl (fun hc1 p hp => ?_) (fun hc1 w hw r hr => ?_)
    · unfold wpY_read
      dsimp only
      refine yp_op hL' hn' hb hc hF hf h1 h2 h0 rfl rfl rfl rfl rfl ⟨fun e => absurd e (by decide), fun _ => rfl⟩ ⟨fun _ => rfl, fun e => absurd e (by decide), fun e => absurd rfl e⟩ (fun hc2 mk => ?_) (fun hc2 => absurd (hcy.mpr hc1) hc2)
      refine ⟨rfl, gs_mkRel (gs_Inv_ab hI0 h1 h2 rfl rfl rfl hp (gs_Lg_keep hL' _ _ _) (fun j hj hk => ?_))⟩
      exact (hV j hj hk).trans (pk_un (show j ≠ n by omega)).symm
    · unfold wpY_read
      dsimp only
      refine yp_op hL' hn' hb hc hF hf h1 h2 h0 rfl rfl rfl rfl rfl ⟨fun e => absurd e (by decide), fun _ => rfl⟩ ⟨fun _ => rfl, fun e => absurd e (by decide), fun e => absurd rfl e⟩ (fun hc2 => absurd (hcy.mp hc2) hc1) (fun hc2 mk f' rd' sr' hfc => ?_)
      obtain ⟨R', S', hI'⟩ := gs_Inv_op (a := gs_val 0 lv (gs_lst (gs_Wr T X K st v2) n)) (z := 0) hI0 hn' h1 h2 h5 hw hc1 (fun e => absurd (by decide) e) (gs_wrt_in hL) (Or.inl ⟨by decide, hr⟩) hfc
      exact ⟨hcv.symm, gs_mkRel hI'⟩
  · refine xp_read0 hb hn h0 ?_
    unfold wpY_read
    dsimp only
    exact yp_ref hb hn h0 ⟨rfl, gs_mkRel hI0⟩
theorem i_vc_write {k : Nat} {u : SX} {v : SY} (I : i_Rel k u v) (hk : k + 4 ≤ 2050) (v1 : Int32) (v2 : Int32) (v3 : Int32) : wpX_write (fun r u' => wpY_write (fun r' v' => r' = r ∧ i_Rel (k + 4) u' v') v v1 v2 v3) u v1 v2 v3 := by
  obtain ⟨sl, it, b, n, c, f, st, so, pr, rf, T, X, K, lt, li, lk, lv, lt', li', lk', lv', R, S, rd, sr, mk, rfl, rfl, hI⟩ := I
  have hI0 := hI
  obtain ⟨hb, hn, hc, hf, hL, hL', hV, hF, hE, hRF, hA⟩ := hI
  by_cases h0 : gs_ref b n it st v1 v2 v3 = 0
  · obtain ⟨t, h1, h2, rfl, hs, hn'⟩ := gs_ref_go hb h0
    have h5 : ¬ st t = 5 := by rw [hs]; decide
    have hcy := gs_cyc (gs_E_app (X := X) (K := K) (n := n) (T := T) (x := v2) (k := 2) h5) hA
    have hDb : ∀ j, gs_Dm b (gs_F f R S) st t j → 1 ≤ j ∧ j ≤ b := gs_Dm_in h1 h2
    refine xp_write hb hc hn' hL hE (gs_Eb hL) hRF h1 h2 h0 rfl (gs_EA_eq hDb) rfl (fun hc1 p hp => ?_) (fun hc1 w hw => ?_)
    · unfold wpY_write
      dsimp only
      refine yp_op hL' hn' hb hc hF hf h1 h2 h0 rfl rfl rfl rfl rfl ⟨fun e => absurd e (by decide), fun _ => rfl⟩ ⟨fun e => absurd e (by decide), fun e => absurd e (by decide), fun _ _ => rfl⟩ (fun hc2 mk => ?_) (fun hc2 => absurd (hcy.mpr hc1) hc2)
      refine ⟨rfl, gs_mkRel (gs_Inv_ab hI0 h1 h2 rfl rfl rfl hp (gs_Lg_keep hL' _ _ _) (fun j hj hk => ?_))⟩
      exact (hV j hj hk).trans (pk_un (show j ≠ n by omega)).symm
    · unfold wpY_write
      dsimp only
      refine yp_op hL' hn' hb hc hF hf h1 h2 h0 rfl rfl rfl rfl rfl ⟨fun e => absurd e (by decide), fun _ => rfl⟩ ⟨fun e => absurd e (by decide), fun e => absurd e (by decide), fun _ _ => rfl⟩ (fun hc2 => absurd (hcy.mp hc2) hc1) (fun hc2 mk f' rd' sr' hfc => ?_)
      obtain ⟨R', S', hI'⟩ := gs_Inv_op (a := v3) (z := v3) hI0 hn' h1 h2 h5 hw hc1 (fun _ => rfl) (gs_wrt_in hL) (Or.inr ⟨by decide, rfl⟩) hfc
      exact ⟨rfl, gs_mkRel hI'⟩
  · refine xp_write0 hb hn h0 ?_
    unfold wpY_write
    dsimp only
    exact yp_ref hb hn h0 ⟨rfl, gs_mkRel hI0⟩
theorem i_vc_add {k : Nat} {u : SX} {v : SY} (I : i_Rel k u v) (hk : k + 4 ≤ 2050) (v1 : Int32) (v2 : Int32) (v3 : Int32) : wpX_add (fun r u' => wpY_add (fun r' v' => r' = r ∧ i_Rel (k + 4) u' v') v v1 v2 v3) u v1 v2 v3 := by
  obtain ⟨sl, it, b, n, c, f, st, so, pr, rf, T, X, K, lt, li, lk, lv, lt', li', lk', lv', R, S, rd, sr, mk, rfl, rfl, hI⟩ := I
  have hI0 := hI
  obtain ⟨hb, hn, hc, hf, hL, hL', hV, hF, hE, hRF, hA⟩ := hI
  by_cases h0 : gs_ref b n it st v1 v2 v3 = 0
  · obtain ⟨t, h1, h2, rfl, hs, hn'⟩ := gs_ref_go hb h0
    have h5 : ¬ st t = 5 := by rw [hs]; decide
    have hcv := gs_val_eq (d := 0) (P := gs_Wr T X K st v2) (n := n) hV (fun i q => q.1.2)
    have hcy := gs_cyc (gs_E_app (X := X) (K := K) (n := n) (T := T) (x := v2) (k := 3) h5) hA
    have hDb : ∀ j, gs_Dm b (gs_F f R S) st t j → 1 ≤ j ∧ j ≤ b := gs_Dm_in h1 h2
    refine xp_add hb hc hn' hL hE (gs_Eb hL) hRF h1 h2 h0 rfl (gs_EA_eq hDb) rfl rfl (fun hc1 p hp => ?_) (fun hc1 w hw r hr => ?_)
    · unfold wpY_add
      dsimp only
      refine yp_op hL' hn' hb hc hF hf h1 h2 h0 rfl rfl rfl rfl rfl ⟨fun _ => rfl, fun e => absurd rfl e⟩ ⟨fun e => absurd e (by decide), fun _ => rfl, fun _ e => absurd rfl e⟩ (fun hc2 mk => ?_) (fun hc2 => absurd (hcy.mpr hc1) hc2)
      refine ⟨rfl, gs_mkRel (gs_Inv_ab hI0 h1 h2 rfl rfl rfl hp (gs_Lg_keep hL' _ _ _) (fun j hj hk => ?_))⟩
      exact (hV j hj hk).trans (pk_un (show j ≠ n by omega)).symm
    · unfold wpY_add
      dsimp only
      refine yp_op hL' hn' hb hc hF hf h1 h2 h0 rfl rfl rfl rfl rfl ⟨fun _ => rfl, fun e => absurd rfl e⟩ ⟨fun e => absurd e (by decide), fun _ => rfl, fun _ e => absurd rfl e⟩ (fun hc2 => absurd (hcy.mp hc2) hc1) (fun hc2 mk f' rd' sr' hfc => ?_)
      obtain ⟨R', S', hI'⟩ := gs_Inv_op (k := 3) (z := (gs_val 0 lv' (gs_lst (gs_Wr T X K st v2) n) + v3) - (gs_val 0 lv' (gs_lst (gs_Wr T X K st v2) n) + v3) / 1000 * 1000) (a := (gs_val 0 lv (gs_lst (gs_Wr T X K st v2) n) + v3) - (gs_val 0 lv (gs_lst (gs_Wr T X K st v2) n) + v3) / 1000 * 1000) hI0 hn' h1 h2 h5 hw hc1 (fun _ => by rw [hcv]) (gs_wrt_in hL) (Or.inl ⟨by decide, hr⟩) hfc
      exact ⟨by rw [hcv], gs_mkRel hI'⟩
  · refine xp_add0 hb hn h0 ?_
    unfold wpY_add
    dsimp only
    exact yp_ref hb hn h0 ⟨rfl, gs_mkRel hI0⟩
theorem i_vc_commit {k : Nat} {u : SX} {v : SY} (I : i_Rel k u v) (hk : k + 4 ≤ 2050) (v1 : Int32) : wpX_commit (fun r u' => wpY_commit (fun r' v' => r' = r ∧ i_Rel (k + 4) u' v') v v1) u v1 := by
  obtain ⟨sl, it, b, n, c, f, st, so, pr, rf, T, X, K, lt, li, lk, lv, lt', li', lk', lv', R, S, rd, sr, mk, rfl, rfl, hI⟩ := I
  have hI0 := hI
  obtain ⟨hb, hn, hc, hf, hL, hL', hV, hF, hE, hRF, hA⟩ := hI
  rcases gs_tc v1 hb with ⟨t, h1, h2, rfl⟩ | h
  · refine xo_commit hb hc hE (gs_Eb hL) hRF (gs_Fb hF) h1 h2 (fun e => ?_) (fun e z => ?_) (fun e z m s hm hs => ?_)
    · exact yl_commit hL' hn hb hc hF (by omega) h1 h2 (fun _ => ⟨rfl, gs_mkRel hI0⟩) (fun e' => absurd e' e) (fun e' => absurd e' e)
    · refine yl_commit hL' hn hb hc hF (by omega) h1 h2 (fun e' => absurd e e') (fun _ _ => ⟨rfl, gs_mkRel (gs_Inv_st hI0 hc (fun s => ?_))⟩) (fun _ z' => ?_)
      · by_cases es : s = t
        · rw [es, pk_us, e]
          decide
        · rw [pk_un es]
      · obtain ⟨w, w1, w2⟩ := z
        exact absurd w2 (z' w w1)
    · refine yl_commit hL' hn hb hc hF (by omega) h1 h2 (fun e' => absurd e e') (fun _ z' => ?_) (fun _ _ m' s' hm' hs' => ?_)
      · obtain ⟨w, w1, w2⟩ := z'
        exact absurd w2 (z w w1)
      · obtain ⟨rfl, rfl⟩ := gs_wyE hm hm' hs hs'
        have h5 : ∀ x, s x = 5 ↔ st x = 5 := by
          intro x
          rw [gs_wy_ab hm x]
          by_cases es : x = t
          · rw [es, pk_us, e]
            decide
          · rw [pk_un es]
        have eE : gs_E n T X K st = gs_E n T X K s := funext fun a => funext fun d => propext (gs_E_c (fun x => (h5 x).symm) a d)
        have q := gs_set_ab b (gs_E n T X K s) (64 - c) s so c
        rw [eE]
        exact ⟨rfl, gs_mkRel (gs_Inv_st hI0 (by have := q.2; omega) (fun x => (q.1 x).trans (h5 x)))⟩
  · unfold wpX_commit wpY_commit
    dsimp only
    exact xo_begun0 h (br_t rfl (yo_begun0 h (br_t rfl ⟨rfl, gs_mkRel hI0⟩)))
theorem i_vc_abort {k : Nat} {u : SX} {v : SY} (I : i_Rel k u v) (hk : k + 4 ≤ 2050) (v1 : Int32) : wpX_abort (fun r u' => wpY_abort (fun r' v' => r' = r ∧ i_Rel (k + 4) u' v') v v1) u v1 := by
  obtain ⟨sl, it, b, n, c, f, st, so, pr, rf, T, X, K, lt, li, lk, lv, lt', li', lk', lv', R, S, rd, sr, mk, rfl, rfl, hI⟩ := I
  have hI0 := hI
  obtain ⟨hb, hn, hc, hf, hL, hL', hV, hF, hE, hRF, hA⟩ := hI
  unfold wpX_abort wpY_abort
  dsimp only
  rcases gs_tc v1 hb with ⟨t, h1, h2, rfl⟩ | h
  · have hDb : ∀ j, gs_Dm b (gs_F f R S) st t j → 1 ≤ j ∧ j ≤ b := gs_Dm_in h1 h2
    refine xo_begun1 h1 h2 hb (br_f (by decide) (xo_isUnf (by omega) (fun e => br_f (by decide) ?_) (fun e => br_t rfl ?_)))
    · refine xo_abort hb hc hE (gs_Eb hL) hRF h1 h2 rfl (gs_EA_eq hDb) rfl (fun p hp => ?_)
      refine yo_begun1 h1 h2 hb (br_f (by decide) (yo_isUnf (by omega) (fun _ => br_f (by decide) ?_) (fun z => absurd e z)))
      refine yl_abort hL' hn hb hc hF (by omega) h1 h2 rfl rfl rfl (fun mk => ?_)
      exact ⟨rfl, gs_mkRel (gs_Inv_ab hI0 h1 h2 rfl rfl rfl hp hL' hV)⟩
    · exact yo_begun1 h1 h2 hb (br_f (by decide) (yo_isUnf (by omega) (fun z => absurd z e) (fun _ => br_t rfl ⟨rfl, gs_mkRel hI0⟩)))
  · exact xo_begun0 h (br_t rfl (yo_begun0 h (br_t rfl ⟨rfl, gs_mkRel hI0⟩)))
end
section
/-! the calls that only look -/
theorem i_vc_status {k : Nat} {u : SX} {v : SY} (I : i_Rel k u v) (hk : k + 4 ≤ 2050) (v1 : Int32) : wpX_status (fun r => wpY_status (fun r' => r' = r ∧ i_Rel (k + 4) u v) v v1) u v1 := by
  have I' : i_Rel (k + 4) u v := I
  obtain ⟨sl, it, b, n, c, f, st, so, pr, rf, T, X, K, lt, li, lk, lv, lt', li', lk', lv', R, S, rd, sr, mk, rfl, rfl, hI⟩ := I
  obtain ⟨hb, hn, hc, hf, hL, hL', hV, hF, hE, hRF, hA⟩ := hI
  unfold wpX_status wpY_status
  dsimp only
  rcases gs_tc v1 hb with ⟨t, h1, h2, rfl⟩ | h
  · have hin : vp_in (nI t) 65 := vp_in_nI (by omega) (by omega)
    exact xo_begun1 h1 h2 hb (br_f (by decide) ⟨hin, yo_begun1 h1 h2 hb (br_f (by decide) ⟨hin, rfl, I'⟩)⟩)
  · exact xo_begun0 h (br_t rfl (yo_begun0 h (br_t rfl ⟨rfl, I'⟩)))
theorem i_vc_value {k : Nat} {u : SX} {v : SY} (I : i_Rel k u v) (hk : k + 4 ≤ 2050) (v1 : Int32) : wpX_value (fun r => wpY_value (fun r' => r' = r ∧ i_Rel (k + 4) u v) v v1) u v1 := by
  have I' : i_Rel (k + 4) u v := I
  obtain ⟨sl, it, b, n, c, f, st, so, pr, rf, T, X, K, lt, li, lk, lv, lt', li', lk', lv', R, S, rd, sr, mk, rfl, rfl, hI⟩ := I
  obtain ⟨hb, hn, hc, hf, hL, hL', hV, hF, hE, hRF, hA⟩ := hI
  unfold wpX_value wpY_value
  dsimp only
  by_cases hx : v1 < 0 ∨ ¬ v1 < it
  · refine xo_item0 hx (br_t rfl ?_)
    by_cases h0 : v1 < 0
    · exact br_t h0 ⟨rfl, I'⟩
    · exact br_f h0 (br_f (hx.resolve_left h0) ⟨rfl, I'⟩)
  · have x0 : ¬ v1 < 0 := fun z => hx (Or.inl z)
    have x1 : v1 < it := Classical.byContradiction fun z => hx (Or.inr z)
    have hcv := gs_val_eq (d := 0) (P := gs_Wr T X K st v1) (n := n) hV (fun i q => q.1.2)
    refine xo_item1 x0 x1 (br_f (by decide) (xl_cur hL hn hb (br_f x0 (br_t x1 ?_))))
    rw [hcv]
    refine yl_lastWrite hL' hn hb (fun e => ?_) (fun i e => ?_)
    · rw [e]
      exact br_t (by decide) ⟨rfl, I'⟩
    · have hi := (gs_lst_in e).1
      rw [e]
      refine br_f (nI_pos (by omega)) ⟨vp_in_nI (by omega) (by omega), ?_, I'⟩
      rw [nI_clamp (show i < 2 ^ 31 by omega)]
      rfl
theorem i_vc_writer {k : Nat} {u : SX} {v : SY} (I : i_Rel k u v) (hk : k + 4 ≤ 2050) (v1 : Int32) : wpX_writer (fun r => wpY_writer (fun r' => r' = r ∧ i_Rel (k + 4) u v) v v1) u v1 := by
  have I' : i_Rel (k + 4) u v := I
  obtain ⟨sl, it, b, n, c, f, st, so, pr, rf, T, X, K, lt, li, lk, lv, lt', li', lk', lv', R, S, rd, sr, mk, rfl, rfl, hI⟩ := I
  obtain ⟨hb, hn, hc, hf, hL, hL', hV, hF, hE, hRF, hA⟩ := hI
  unfold wpX_writer wpY_writer
  dsimp only
  by_cases hx : v1 < 0 ∨ ¬ v1 < it
  · refine xo_item0 hx (br_t rfl ?_)
    by_cases h0 : v1 < 0
    · exact br_t h0 ⟨rfl, I'⟩
    · exact br_f h0 (br_f (hx.resolve_left h0) ⟨rfl, I'⟩)
  · have x0 : ¬ v1 < 0 := fun z => hx (Or.inl z)
    have x1 : v1 < it := Classical.byContradiction fun z => hx (Or.inr z)
    refine xo_item1 x0 x1 (br_f (by decide) (xl_lastWriter hL hn hb ?_))
    cases e : gs_lst (gs_Wr T X K st v1) n with
    | zero =>
      refine br_t rfl (br_f x0 (br_t x1 (yl_lastWrite hL' hn hb (fun _ => br_t (by decide) ⟨rfl, I'⟩) (fun i e' => ?_))))
      rw [e] at e'
      exact absurd e' (by omega)
    | succ i =>
      have hi := hL i (gs_lst_in e).1
      have hi' := hL' i (gs_lst_in e).1
      have hin : vp_in (nI i) 128 := vp_in_nI (by have := (gs_lst_in e).1; omega) (by omega)
      have hcl : (nI i).toNatClampNeg = i := nI_clamp (by have := (gs_lst_in e).1; omega)
      rw [show gs_wrt T (i + 1) = T i from rfl]
      refine br_f (nI_ne0 (show 0 < T i by omega) (by omega)) ?_
      have h0 : ¬ nI i < 0 := nI_pos (by have := (gs_lst_in e).1; omega)
      refine xo_isOpen (t := T i) (by omega) (fun o => br_f (by decide) ?_) (fun o => br_t rfl ?_)
      · refine br_f x0 (br_t x1 (yl_lastWrite hL' hn hb (fun z => by rw [e] at z; exact absurd z (by omega)) (fun j e' => ?_)))
        obtain rfl : i = j := by omega
        refine br_f h0 ⟨hin, ?_⟩
        rw [hcl, hi'.1]
        exact yo_isOpen (by omega) (fun _ => br_f (by decide) ⟨hin, rfl, I'⟩) (fun z => absurd o z)
      · refine br_f x0 (br_t x1 (yl_lastWrite hL' hn hb (fun z => by rw [e] at z; exact absurd z (by omega)) (fun j e' => ?_)))
        obtain rfl : i = j := by omega
        refine br_f h0 ⟨hin, ?_⟩
        rw [hcl, hi'.1]
        exact yo_isOpen (by omega) (fun z => absurd z o) (fun _ => br_t rfl ⟨rfl, I'⟩)
theorem i_vc_settledValue {k : Nat} {u : SX} {v : SY} (I : i_Rel k u v) (hk : k + 4 ≤ 2050) (v1 : Int32) : wpX_settledValue (fun r => wpY_settledValue (fun r' => r' = r ∧ i_Rel (k + 4) u v) v v1) u v1 := by
  have I' : i_Rel (k + 4) u v := I
  obtain ⟨sl, it, b, n, c, f, st, so, pr, rf, T, X, K, lt, li, lk, lv, lt', li', lk', lv', R, S, rd, sr, mk, rfl, rfl, hI⟩ := I
  obtain ⟨hb, hn, hc, hf, hL, hL', hV, hF, hE, hRF, hA⟩ := hI
  by_cases hx : v1 < 0 ∨ ¬ v1 < it
  · unfold wpX_settledValue wpY_settledValue
    dsimp only
    refine xo_item0 hx (br_t rfl ?_)
    by_cases h0 : v1 < 0
    · exact br_t h0 ⟨rfl, I'⟩
    · exact br_f h0 (br_f (hx.resolve_left h0) ⟨rfl, I'⟩)
  · have x0 : ¬ v1 < 0 := fun z => hx (Or.inl z)
    have x1 : v1 < it := Classical.byContradiction fun z => hx (Or.inr z)
    exact xp_settledValue hL hn hb x0 x1 (yp_settledValue hL' hn hb x0 x1 ⟨(gs_val_eq hV (fun i q => q.1.2)).symm, I'⟩)
theorem i_vc_before {k : Nat} {u : SX} {v : SY} (I : i_Rel k u v) (hk : k + 4 ≤ 2050) (v1 : Int32) (v2 : Int32) : wpX_before (fun r => wpY_before (fun r' v' => r' = r ∧ i_Rel (k + 4) u v') v v1 v2) u v1 v2 := by
  have I' : i_Rel (k + 4) u v := I
  obtain ⟨sl, it, b, n, c, f, st, so, pr, rf, T, X, K, lt, li, lk, lv, lt', li', lk', lv', R, S, rd, sr, mk, rfl, rfl, hI⟩ := I
  have hI0 := hI
  obtain ⟨hb, hn, hc, hf, hL, hL', hV, hF, hE, hRF, hA⟩ := hI
  unfold wpX_before wpY_before
  dsimp only
  rcases gs_tc v1 hb with ⟨t, h1, h2, rfl⟩ | h
  · rcases gs_tc v2 hb with ⟨w, w1, w2, rfl⟩ | h'
    · by_cases ho : gs_op (st t) ∧ gs_op (st w)
      · have win : vp_in (nI w) 65 := vp_in_nI (by omega) (by omega)
        have wcl : (nI w).toNatClampNeg = w := nI_clamp (by omega)
        refine xp_pair0 hb h1 h2 w1 w2 ho.1 ho.2 (br_t rfl ⟨win, ?_⟩)
        rw [wcl]
        have hpw := hE w w1 (by omega)
        refine xo_withAnc hb hE (gs_Eb hL) (fun s z => (gs_E_in hL ((hpw s).mp z)).1) (fun q hq => ?_)
        have hk : gs_m q t ↔ gs_Pl (gs_E n T X K st) t w := ((hq t).trans (gs_L_c hpw (fun _ _ => Iff.rfl) t)).trans gs_Bk_Pl
        refine xo_has h1 (by omega) (fun z => br_f (by decide) ?_) (fun z => br_t rfl ?_)
        · refine yo_begun1 h1 h2 hb (br_f (by decide) (yo_begun1 w1 w2 hb (br_f (by decide) (yo_isOpen (by omega) (fun _ => br_f (by decide) (yo_isOpen (by omega) (fun _ => br_f (by decide) ?_) (fun y => absurd ho.2 y))) (fun y => absurd ho.1 y)))))
          exact yl_path hL' hn hb (by omega) (by omega) (fun _ mk => br_f (by decide) ⟨rfl, gs_mkRel hI0⟩) (fun y => absurd (hk.mp z) y)
        · refine yo_begun1 h1 h2 hb (br_f (by decide) (yo_begun1 w1 w2 hb (br_f (by decide) (yo_isOpen (by omega) (fun _ => br_f (by decide) (yo_isOpen (by omega) (fun _ => br_f (by decide) ?_) (fun y => absurd ho.2 y))) (fun y => absurd ho.1 y)))))
          exact yl_path hL' hn hb (by omega) (by omega) (fun y => absurd (hk.mpr y) z) (fun _ mk => br_t rfl ⟨rfl, gs_mkRel hI0⟩)
      · refine xp_pair9 hb h1 h2 w1 w2 ho (br_f (by decide) ?_)
        refine yo_begun1 h1 h2 hb (br_f (by decide) (yo_begun1 w1 w2 hb (br_f (by decide) (yo_isOpen (by omega) (fun o1 => br_f (by decide) (yo_isOpen (by omega) (fun o2 => absurd ⟨o1, o2⟩ ho) (fun _ => br_t rfl ⟨rfl, I'⟩))) (fun _ => br_t rfl ⟨rfl, I'⟩)))))
    · refine xp_pair1 hb (Or.inr h') (br_f (by decide) ?_)
      exact yo_begun1 h1 h2 hb (br_f (by decide) (yo_begun0 h' (br_t rfl ⟨rfl, I'⟩)))
  · exact xp_pair1 hb (Or.inl h) (br_f (by decide) (yo_begun0 h (br_t rfl ⟨rfl, I'⟩)))
theorem i_vc_waitsFor {k : Nat} {u : SX} {v : SY} (I : i_Rel k u v) (hk : k + 4 ≤ 2050) (v1 : Int32) (v2 : Int32) : wpX_waitsFor (fun r => wpY_waitsFor (fun r' => r' = r ∧ i_Rel (k + 4) u v) v v1 v2) u v1 v2 := by
  have I' : i_Rel (k + 4) u v := I
  obtain ⟨sl, it, b, n, c, f, st, so, pr, rf, T, X, K, lt, li, lk, lv, lt', li', lk', lv', R, S, rd, sr, mk, rfl, rfl, hI⟩ := I
  obtain ⟨hb, hn, hc, hf, hL, hL', hV, hF, hE, hRF, hA⟩ := hI
  unfold wpX_waitsFor
  dsimp only
  rcases gs_tc v1 hb with ⟨t, h1, h2, rfl⟩ | h
  · rcases gs_tc v2 hb with ⟨w, w1, w2, rfl⟩ | h'
    · by_cases ho : gs_op (st t) ∧ gs_op (st w)
      · have tin : vp_in (nI t) 65 := vp_in_nI (by omega) (by omega)
        have tcl : (nI t).toNatClampNeg = t := nI_clamp (by omega)
        have hrt := hRF t h1 (by omega) w
        refine xp_pair0 hb h1 h2 w1 w2 ho.1 ho.2 (br_t rfl ?_)
        refine xo_isUnf (by omega) (fun un => br_f (by decide) ⟨tin, ?_⟩) (fun un => br_t rfl ?_)
        · rw [tcl]
          refine xo_has w1 (by omega) (fun z => br_f (by decide) ?_) (fun z => br_t rfl ?_)
          · exact yp_waitsFor hF (by omega) hb h1 h2 w1 w2 ho.1 ho.2 (fun _ => ⟨rfl, I'⟩) (fun y => absurd ⟨hrt.mp z, un⟩ y)
          · exact yp_waitsFor hF (by omega) hb h1 h2 w1 w2 ho.1 ho.2 (fun y => absurd (hrt.mpr y.1) z) (fun _ => ⟨rfl, I'⟩)
        · exact yp_waitsFor hF (by omega) hb h1 h2 w1 w2 ho.1 ho.2 (fun y => absurd y.2 un) (fun _ => ⟨rfl, I'⟩)
      · refine xp_pair9 hb h1 h2 w1 w2 ho (br_f (by decide) ?_)
        unfold wpY_waitsFor
        dsimp only
        exact yo_begun1 h1 h2 hb (br_f (by decide) (yo_begun1 w1 w2 hb (br_f (by decide) (yo_isOpen (by omega) (fun o1 => br_f (by decide) (yo_isOpen (by omega) (fun o2 => absurd ⟨o1, o2⟩ ho) (fun _ => br_t rfl ⟨rfl, I'⟩))) (fun _ => br_t rfl ⟨rfl, I'⟩)))))
    · refine xp_pair1 hb (Or.inr h') (br_f (by decide) ?_)
      unfold wpY_waitsFor
      dsimp only
      exact yo_begun1 h1 h2 hb (br_f (by decide) (yo_begun0 h' (br_t rfl ⟨rfl, I'⟩)))
  · refine xp_pair1 hb (Or.inl h) (br_f (by decide) ?_)
    unfold wpY_waitsFor
    dsimp only
    exact yo_begun0 h (br_t rfl ⟨rfl, I'⟩)
theorem i_vc_access {k : Nat} {u : SX} {v : SY} (I : i_Rel k u v) (hk : k + 4 ≤ 2050) (v1 : Int32) (v2 : Int32) : wpX_access (fun r => wpY_access (fun r' => r' = r ∧ i_Rel (k + 4) u v) v v1 v2) u v1 v2 := by
  have I' : i_Rel (k + 4) u v := I
  obtain ⟨sl, it, b, n, c, f, st, so, pr, rf, T, X, K, lt, li, lk, lv, lt', li', lk', lv', R, S, rd, sr, mk, rfl, rfl, hI⟩ := I
  obtain ⟨hb, hn, hc, hf, hL, hL', hV, hF, hE, hRF, hA⟩ := hI
  rcases gs_tc v1 hb with ⟨t, h1, h2, rfl⟩ | h
  · by_cases ho : gs_op (st t)
    · by_cases hx : v2 < 0 ∨ ¬ v2 < it
      · unfold wpX_access wpY_access
        dsimp only
        refine xp_own3 hb h1 h2 ho hx (br_f (by decide) (yo_begun1 h1 h2 hb (br_f (by decide) (yo_isOpen (by omega) (fun _ => br_f (by decide) ?_) (fun y => absurd ho y)))))
        by_cases h0 : v2 < 0
        · exact br_t h0 ⟨rfl, I'⟩
        · exact br_f h0 (br_f (hx.resolve_left h0) ⟨rfl, I'⟩)
      · have x0 : ¬ v2 < 0 := fun z => hx (Or.inl z)
        have x1 : v2 < it := Classical.byContradiction fun z => hx (Or.inr z)
        exact xp_access hL hn hb h1 h2 ho x0 x1 (yp_access hL' hn hb h1 h2 ho x0 x1 ⟨rfl, I'⟩)
    · unfold wpX_access wpY_access
      dsimp only
      exact xp_own9 hb h1 h2 ho (br_f (by decide) (yo_begun1 h1 h2 hb (br_f (by decide) (yo_isOpen (by omega) (fun y => absurd y ho) (fun _ => br_t rfl ⟨rfl, I'⟩)))))
  · unfold wpX_access wpY_access
    dsimp only
    exact xp_own1 h (br_f (by decide) (yo_begun0 h (br_t rfl ⟨rfl, I'⟩)))
theorem i_vc_written {k : Nat} {u : SX} {v : SY} (I : i_Rel k u v) (hk : k + 4 ≤ 2050) (v1 : Int32) (v2 : Int32) : wpX_written (fun r => wpY_written (fun r' => r' = r ∧ i_Rel (k + 4) u v) v v1 v2) u v1 v2 := by
  have I' : i_Rel (k + 4) u v := I
  obtain ⟨sl, it, b, n, c, f, st, so, pr, rf, T, X, K, lt, li, lk, lv, lt', li', lk', lv', R, S, rd, sr, mk, rfl, rfl, hI⟩ := I
  obtain ⟨hb, hn, hc, hf, hL, hL', hV, hF, hE, hRF, hA⟩ := hI
  rcases gs_tc v1 hb with ⟨t, h1, h2, rfl⟩ | h
  · by_cases ho : gs_op (st t)
    · by_cases hx : v2 < 0 ∨ ¬ v2 < it
      · unfold wpX_written wpY_written
        dsimp only
        refine xp_own3 hb h1 h2 ho hx (br_f (by decide) (yo_begun1 h1 h2 hb (br_f (by decide) (yo_isOpen (by omega) (fun _ => br_f (by decide) ?_) (fun y => absurd ho y)))))
        by_cases h0 : v2 < 0
        · exact br_t h0 ⟨rfl, I'⟩
        · exact br_f h0 (br_f (hx.resolve_left h0) ⟨rfl, I'⟩)
      · have x0 : ¬ v2 < 0 := fun z => hx (Or.inl z)
        have x1 : v2 < it := Classical.byContradiction fun z => hx (Or.inr z)
        exact xp_written hL hn hb h1 h2 ho x0 x1 (yp_written hL' hn hb h1 h2 ho x0 x1 ⟨(gs_val_eq hV (fun i q => q.2.2)).symm, I'⟩)
    · unfold wpX_written wpY_written
      dsimp only
      exact xp_own9 hb h1 h2 ho (br_f (by decide) (yo_begun1 h1 h2 hb (br_f (by decide) (yo_isOpen (by omega) (fun y => absurd y ho) (fun _ => br_t rfl ⟨rfl, I'⟩)))))
  · unfold wpX_written wpY_written
    dsimp only
    exact xp_own1 h (br_f (by decide) (yo_begun0 h (br_t rfl ⟨rfl, I'⟩)))
end
section
/-! the last two -/
theorem i_vc_settledAt {k : Nat} {u : SX} {v : SY} (I : i_Rel k u v) (hk : k + 4 ≤ 2050) (v1 : Int32) : wpX_settledAt (fun r => wpY_settledAt (fun r' => r' = r ∧ i_Rel (k + 4) u v) v v1) u v1 := by
  have I' : i_Rel (k + 4) u v := I
  obtain ⟨sl, it, b, n, c, f, st, so, pr, rf, T, X, K, lt, li, lk, lv, lt', li', lk', lv', R, S, rd, sr, mk, rfl, rfl, hI⟩ := I
  have hc := hI.2.2.1
  unfold wpX_settledAt wpY_settledAt
  dsimp only
  refine br_c (fun h => br_t h ⟨rfl, I'⟩) (fun h => ?_)
  refine br_c (fun e => br_f h (br_t e ⟨rfl, I'⟩)) (fun e => ?_)
  have hin : vp_in v1 64 := by
    obtain ⟨j, hj, rfl⟩ := nI_of h
    have : j < c := (nI_ltI hj (by omega)).mp (Int32.not_le.mp e)
    exact vp_in_nI (by omega) (by omega)
  exact ⟨hin, br_f h (br_f e ⟨hin, rfl, I'⟩)⟩
theorem i_vc_opsLeft {k : Nat} {u : SX} {v : SY} (I : i_Rel k u v) (hk : k + 4 ≤ 2050) : wpX_opsLeft (fun r => wpY_opsLeft (fun r' => r' = r ∧ i_Rel (k + 4) u v) v) u := by
  have I' : i_Rel (k + 4) u v := I
  obtain ⟨sl, it, b, n, c, f, st, so, pr, rf, T, X, K, lt, li, lk, lv, lt', li', lk', lv', R, S, rd, sr, mk, rfl, rfl, hI⟩ := I
  unfold wpX_opsLeft wpY_opsLeft
  exact ⟨rfl, I'⟩
end
