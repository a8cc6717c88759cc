section
theorem ts_nf {x : Bool} (h : ¬ x = false) : x = true := by cases x <;> first | rfl | exact absurd rfl h
theorem ts_nt {x : Bool} (h : ¬ x = true) : x = false := by cases x <;> first | rfl | exact absurd rfl h
theorem ts_bit {w : Int64} {s : UInt64} {j : Nat} (hj : j < 64) (hs : s.toNat = j) : ((w.toUInt64 >>> s).toInt64 &&& 1) = 0 ↔ w.toBitVec.getLsbD j = false := by
  have e : (w.toUInt64 >>> s).toInt64.toBitVec = w.toBitVec >>> j := by
    apply BitVec.eq_of_toNat_eq
    show (w.toUInt64 >>> s).toNat = _
    rw [UInt64.toNat_shiftRight, hs, Nat.mod_eq_of_lt hj, BitVec.toNat_ushiftRight]
    rfl
  rw [← Int64.toBitVec_inj, Int64.toBitVec_and, e]
  show w.toBitVec >>> j &&& 1#64 = 0#64 ↔ _
  constructor
  · intro h
    have t := congrArg (fun x => x.getLsbD 0) h
    simpa using t
  · intro h
    apply BitVec.eq_of_getLsbD_eq
    intro i hi
    cases i with
    | zero => simp [h]
    | succ i => simp
theorem wb_tb (n : Nat) : (lN n).toBitVec = BitVec.ofNat 64 n := rfl
theorem wb_inj {a b : Int64} (h : a.toBitVec = b.toBitVec) : a = b := Int64.toBitVec_inj.mp h
theorem wb_tn {n : Nat} (h : n < 2 ^ 64) : (lN n).toBitVec.toNat = n := by rw [wb_tb, BitVec.toNat_ofNat, Nat.mod_eq_of_lt h]
theorem wb_of (x : Int64) : ∃ n, n < 2 ^ 64 ∧ x = lN n := ⟨x.toBitVec.toNat, x.toBitVec.isLt, wb_inj (by rw [wb_tb]; simp)⟩
theorem wb_c : ∀ k, k < 64 → ((nI k).toInt64 &&& 63) = lN k := by decide +kernel
theorem wb_cu : ∀ k, k < 64 → ((nI k).toInt64.toUInt64 &&& Int64.toUInt64 63) = UInt64.ofNat k := by decide +kernel
theorem wb_sm : ∀ k, k < 64 → (BitVec.ofNat 64 k).smod 64 = BitVec.ofNat 64 k := by decide +kernel
theorem wb_pw {a b : Nat} (h : a ≤ b) : 2 ^ b = 2 ^ a * 2 ^ (b - a) := by rw [← Nat.pow_add]; congr 1; omega
theorem wb_lt2 {a b : Nat} (h : a < b) : 2 ^ a < 2 ^ b := Nat.pow_lt_pow_right (by decide) h
theorem wb_shr {n k : Nat} (hn : n < 2 ^ 64) (hk : k < 64) : ((lN n).toUInt64 >>> ((nI k).toInt64.toUInt64 &&& Int64.toUInt64 63)).toInt64 = lN (n / 2 ^ k) := by
  rw [wb_cu k hk]
  apply wb_inj
  apply BitVec.eq_of_toNat_eq
  show ((lN n).toUInt64 >>> UInt64.ofNat k).toNat = (BitVec.ofNat 64 _).toNat
  have h1 : (UInt64.ofNat k).toNat = k := by
    show (BitVec.ofNat 64 k).toNat = k
    rw [BitVec.toNat_ofNat, Nat.mod_eq_of_lt (by omega)]
  have h2 : (lN n).toUInt64.toNat = n := wb_tn hn
  rw [UInt64.toNat_shiftRight, h1, h2, Nat.mod_eq_of_lt hk, Nat.shiftRight_eq_div_pow, BitVec.toNat_ofNat, Nat.mod_eq_of_lt (Nat.lt_of_le_of_lt (Nat.div_le_self _ _) hn)]
theorem wb_shl (n : Nat) {k : Nat} (hk : k < 64) : lN n <<< ((nI k).toInt64 &&& 63) = lN (n * 2 ^ k) := by
  rw [wb_c k hk]
  apply wb_inj
  rw [Int64.toBitVec_shiftLeft, wb_tb, wb_tb, wb_tb, wb_sm k hk]
  apply BitVec.eq_of_toNat_eq
  rw [BitVec.shiftLeft_eq', BitVec.toNat_shiftLeft, BitVec.toNat_ofNat, BitVec.toNat_ofNat, BitVec.toNat_ofNat, Nat.mod_eq_of_lt (show k < 2 ^ 64 by omega), Nat.shiftLeft_eq, Nat.mul_mod, Nat.mod_mod, ← Nat.mul_mod]
theorem wb_and {a b : Nat} (ha : a < 2 ^ 64) (hb : b < 2 ^ 64) : lN a &&& lN b = lN (a &&& b) := by
  apply wb_inj
  rw [Int64.toBitVec_and, wb_tb, wb_tb, wb_tb]
  apply BitVec.eq_of_toNat_eq
  rw [BitVec.toNat_and, BitVec.toNat_ofNat, BitVec.toNat_ofNat, BitVec.toNat_ofNat, Nat.mod_eq_of_lt ha, Nat.mod_eq_of_lt hb, Nat.mod_eq_of_lt (Nat.and_lt_two_pow _ hb)]
theorem wb_or {a b : Nat} (ha : a < 2 ^ 64) (hb : b < 2 ^ 64) : lN a ||| lN b = lN (a ||| b) := by
  apply wb_inj
  rw [Int64.toBitVec_or, wb_tb, wb_tb, wb_tb]
  apply BitVec.eq_of_toNat_eq
  rw [BitVec.toNat_or, BitVec.toNat_ofNat, BitVec.toNat_ofNat, BitVec.toNat_ofNat, Nat.mod_eq_of_lt ha, Nat.mod_eq_of_lt hb, Nat.mod_eq_of_lt (Nat.or_lt_two_pow ha hb)]
theorem wb_mask {n k : Nat} (hn : n < 2 ^ 64) (hk : k < 64) : lN n &&& lN (2 ^ k - 1) = lN (n % 2 ^ k) := by
  rw [wb_and hn (by have := wb_lt2 hk; omega), Nat.and_two_pow_sub_one_eq_mod]
theorem nx_and (a b : Nat) : nI a &&& nI b = nI (a &&& b) := by
  apply Int32.toBitVec_inj.1
  show BitVec.ofNat 32 a &&& BitVec.ofNat 32 b = BitVec.ofNat 32 (a &&& b)
  apply BitVec.eq_of_getLsbD_eq
  intro i hi
  simp [hi]
theorem nx_mod (k : Nat) : nI k &&& 65535 = nI (k % 65536) := by
  show nI k &&& nI 65535 = _
  rw [nx_and, show (65535 : Nat) = 2 ^ 16 - 1 from rfl, Nat.and_two_pow_sub_one_eq_mod]
theorem u_tn {n : Nat} (h : n < 2 ^ 64) : (UInt64.ofNat n).toNat = n := Nat.mod_eq_of_lt h
theorem g_or {k p a b : Nat} (hp : 2 ^ k = p) (ha : a < p) (h : b * p + a < 2 ^ 64) : lN (b * p) ||| lN a = lN (b * p + a) := by
  subst hp
  have h1 : b * 2 ^ k ||| a = b * 2 ^ k + a := by rw [← Nat.shiftLeft_eq, Nat.shiftLeft_add_eq_or_of_lt ha]
  have h3 : UInt64.ofNat (b * 2 ^ k) ||| UInt64.ofNat a = UInt64.ofNat (b * 2 ^ k + a) := UInt64.toNat_inj.mp (by rw [UInt64.toNat_or, u_tn (by omega), u_tn (by omega), u_tn h, h1])
  have h2 := congrArg UInt64.toInt64 h3
  exact h2
theorem g_or' {k p a b : Nat} (hp : 2 ^ k = p) (ha : a < p) (h : a + b * p < 2 ^ 64) : lN a ||| lN (b * p) = lN (a + b * p) := by
  rw [Int64.or_comm, g_or hp ha (by omega), Nat.add_comm]
end
section
/-! sets of transactions as longs: s is in w when bit s - 1 of w is set -/
def gs_m (w : Int64) (s : Nat) : Prop := 1 ≤ s ∧ s ≤ 64 ∧ w.toBitVec.getLsbD (s - 1) = true
theorem gs_m_or (a b : Int64) (s : Nat) : gs_m (a ||| b) s ↔ gs_m a s ∨ gs_m b s := by
  unfold gs_m
  rw [Int64.toBitVec_or, BitVec.getLsbD_or, Bool.or_eq_true]
  constructor
  · rintro ⟨h1, h2, h | h⟩
    · exact Or.inl ⟨h1, h2, h⟩
    · exact Or.inr ⟨h1, h2, h⟩
  · rintro (⟨h1, h2, h⟩ | ⟨h1, h2, h⟩)
    · exact ⟨h1, h2, Or.inl h⟩
    · exact ⟨h1, h2, Or.inr h⟩
theorem gs_m_and (a b : Int64) (s : Nat) : gs_m (a &&& b) s ↔ gs_m a s ∧ gs_m b s := by
  unfold gs_m
  rw [Int64.toBitVec_and, BitVec.getLsbD_and, Bool.and_eq_true]
  constructor
  · rintro ⟨h1, h2, h, h'⟩
    exact ⟨⟨h1, h2, h⟩, h1, h2, h'⟩
  · rintro ⟨⟨h1, h2, h⟩, _, _, h'⟩
    exact ⟨h1, h2, h, h'⟩
theorem gs_m_0 (s : Nat) : ¬ gs_m 0 s := by
  rintro ⟨_, _, h⟩
  rw [show (0 : Int64).toBitVec = 0#64 from rfl, BitVec.getLsbD_zero] at h
  exact Bool.noConfusion h
theorem gs_m_not (a d : Int64) (s : Nat) : gs_m (a &&& (d ^^^ (-1))) s ↔ gs_m a s ∧ ¬ gs_m d s := by
  rw [gs_m_and]
  have hd : 1 ≤ s → s ≤ 64 → (gs_m (d ^^^ (-1)) s ↔ ¬ gs_m d s) := by
    intro h1 h2
    unfold gs_m
    rw [Int64.toBitVec_xor, BitVec.getLsbD_xor, show (-1 : Int64).toBitVec = BitVec.allOnes 64 from by decide, BitVec.getLsbD_allOnes, decide_eq_true (show s - 1 < 64 by omega)]
    cases d.toBitVec.getLsbD (s - 1) <;> simp [h1, h2]
  constructor
  · rintro ⟨h, h'⟩
    exact ⟨h, (hd h.1 h.2.1).mp h'⟩
  · rintro ⟨h, h'⟩
    exact ⟨h, (hd h.1 h.2.1).mpr h'⟩
theorem gs_0_iff (w : Int64) : w = 0 ↔ ∀ s, ¬ gs_m w s := by
  constructor
  · intro h s
    rw [h]
    exact gs_m_0 s
  · intro h
    apply wb_inj
    apply BitVec.eq_of_getLsbD_eq
    intro i hi
    rw [show (0 : Int64).toBitVec = 0#64 from rfl, BitVec.getLsbD_zero]
    cases e : w.toBitVec.getLsbD i with
    | false => rfl
    | true => exact absurd ⟨by omega, by omega, by rw [Nat.add_sub_cancel]; exact e⟩ (h (i + 1))
theorem gs_and0 (w v : Int64) : w &&& v = 0 ↔ ∀ s, gs_m w s → ¬ gs_m v s := by
  rw [gs_0_iff]
  constructor
  · intro h s hw hv
    exact h s ((gs_m_and w v s).mpr ⟨hw, hv⟩)
  · intro h s hs
    exact h s ((gs_m_and w v s).mp hs).1 ((gs_m_and w v s).mp hs).2
def gs_bit (t : Nat) : Int64 := lN (2 ^ (t - 1))
theorem gs_m_bit {t : Nat} (h1 : 1 ≤ t) (h2 : t ≤ 64) (s : Nat) : gs_m (gs_bit t) s ↔ s = t := by
  unfold gs_m gs_bit
  rw [wb_tb, BitVec.getLsbD_ofNat, Nat.testBit_two_pow, Bool.and_eq_true, decide_eq_true_eq, decide_eq_true_eq]
  omega
theorem gs_bit_e {t : Nat} (h1 : 1 ≤ t) (h2 : t ≤ 64) : (1 : Int64) <<< ((nI t - 1).toInt64 &&& 63) = gs_bit t := by
  obtain ⟨k, rfl⟩ : ∃ k, t = k + 1 := ⟨t - 1, by omega⟩
  rw [nI_pred, show (1 : Int64) = lN 1 from rfl, wb_shl 1 (show k < 64 by omega), Nat.one_mul]
  rfl
theorem gs_has {w : Int64} {t : Nat} (h1 : 1 ≤ t) (h2 : t ≤ 64) : w &&& gs_bit t = 0 ↔ ¬ gs_m w t := by
  rw [gs_and0]
  constructor
  · intro h hw
    exact h t hw ((gs_m_bit h1 h2 t).mpr rfl)
  · intro h s hw hs
    rw [(gs_m_bit h1 h2 s).mp hs] at hw
    exact h hw
/-! least sets -/
def gs_L (S : Nat → Prop) (R : Nat → Nat → Prop) (x : Nat) : Prop := ∀ A : Nat → Prop, (∀ c, S c → A c) → (∀ t s, A t → R t s → A s) → A x
theorem gs_L_b {S : Nat → Prop} {R : Nat → Nat → Prop} {x : Nat} (h : S x) : gs_L S R x := fun _ h1 _ => h1 x h
theorem gs_L_s {S : Nat → Prop} {R : Nat → Nat → Prop} {t s : Nat} (h : gs_L S R t) (r : R t s) : gs_L S R s := fun A h1 h2 => h2 t s (h A h1 h2) r
theorem gs_L_i {S : Nat → Prop} {R : Nat → Nat → Prop} {A : Nat → Prop} (h1 : ∀ c, S c → A c) (h2 : ∀ t s, A t → R t s → A s) {x : Nat} (h : gs_L S R x) : A x := h A h1 h2
theorem gs_L_m {S S' : Nat → Prop} {R R' : Nat → Nat → Prop} (h1 : ∀ c, S c → S' c) (h2 : ∀ t s, R t s → R' t s) {x : Nat} (h : gs_L S R x) : gs_L S' R' x :=
  gs_L_i (fun c hc => gs_L_b (h1 c hc)) (fun _ _ ht hr => gs_L_s ht (h2 _ _ hr)) h
theorem gs_L_c {S S' : Nat → Prop} {R R' : Nat → Nat → Prop} (h1 : ∀ c, S c ↔ S' c) (h2 : ∀ t s, R t s ↔ R' t s) (x : Nat) : gs_L S R x ↔ gs_L S' R' x :=
  ⟨gs_L_m (fun c => (h1 c).mp) (fun t s => (h2 t s).mp), gs_L_m (fun c => (h1 c).mpr) (fun t s => (h2 t s).mpr)⟩
/-! counting in 1 .. m -/
noncomputable def gs_cnt (A : Nat → Prop) : Nat → Nat
  | 0 => 0
  | m + 1 => gs_cnt A m + @ite Nat (A (m + 1)) (Classical.propDecidable _) 1 0
theorem gs_cnt_t {A : Nat → Prop} {m : Nat} (h : A (m + 1)) : gs_cnt A (m + 1) = gs_cnt A m + 1 := by rw [gs_cnt, if_pos h]
theorem gs_cnt_f {A : Nat → Prop} {m : Nat} (h : ¬ A (m + 1)) : gs_cnt A (m + 1) = gs_cnt A m := by rw [gs_cnt, if_neg h, Nat.add_zero]
theorem gs_cnt_le (A : Nat → Prop) (m : Nat) : gs_cnt A m ≤ m := by
  induction m with
  | zero => exact Nat.le_refl 0
  | succ m ih =>
    by_cases h : A (m + 1)
    · rw [gs_cnt_t h]; omega
    · rw [gs_cnt_f h]; omega
theorem gs_cnt_mono {A B : Nat → Prop} (hAB : ∀ s, A s → B s) (m : Nat) : gs_cnt A m ≤ gs_cnt B m := by
  induction m with
  | zero => exact Nat.le_refl 0
  | succ m ih =>
    by_cases hA : A (m + 1)
    · rw [gs_cnt_t hA, gs_cnt_t (hAB _ hA)]; omega
    · by_cases hB : B (m + 1)
      · rw [gs_cnt_f hA, gs_cnt_t hB]; omega
      · rw [gs_cnt_f hA, gs_cnt_f hB]; omega
theorem gs_cnt_c {A B : Nat → Prop} {m : Nat} (h : ∀ s, 1 ≤ s → s ≤ m → (A s ↔ B s)) : gs_cnt A m = gs_cnt B m := by
  induction m with
  | zero => rfl
  | succ m ih =>
    have e := ih (fun s h1 h2 => h s h1 (by omega))
    have hm := h (m + 1) (by omega) (by omega)
    by_cases hA : A (m + 1)
    · rw [gs_cnt_t hA, gs_cnt_t (hm.mp hA), e]
    · rw [gs_cnt_f hA, gs_cnt_f (fun hB => hA (hm.mpr hB)), e]
theorem gs_cnt_rm {A B : Nat → Prop} {s : Nat} (hA : A s) (hB : ¬ B s) (h : ∀ j, j ≠ s → (A j ↔ B j)) {m : Nat} (h1 : 1 ≤ s) (h2 : s ≤ m) : gs_cnt B m + 1 = gs_cnt A m := by
  induction m with
  | zero => omega
  | succ m ih =>
    by_cases e : s = m + 1
    · subst e
      rw [gs_cnt_t hA, gs_cnt_f hB, gs_cnt_c (A := B) (B := A) (fun j _ hj => (h j (by omega)).symm)]
    · have ih := ih (by omega)
      have hm := h (m + 1) (by omega)
      by_cases c : A (m + 1)
      · rw [gs_cnt_t c, gs_cnt_t (hm.mp c)]; omega
      · rw [gs_cnt_f c, gs_cnt_f (fun hB => c (hm.mpr hB))]; omega
theorem gs_cnt_lt {A B : Nat → Prop} (hAB : ∀ s, A s → B s) {s : Nat} (hs : B s) (hn : ¬ A s) {m : Nat} (h1 : 1 ≤ s) (h2 : s ≤ m) : gs_cnt A m + 1 ≤ gs_cnt B m := by
  have e : gs_cnt (fun j => B j ∧ j ≠ s) m + 1 = gs_cnt B m := gs_cnt_rm (A := B) (B := fun j => B j ∧ j ≠ s) hs (fun h => h.2 rfl) (fun j hj => ⟨fun h => ⟨h, hj⟩, fun h => h.1⟩) h1 h2
  have l : gs_cnt A m ≤ gs_cnt (fun j => B j ∧ j ≠ s) m := gs_cnt_mono (fun j hj => ⟨hAB j hj, fun e => hn (e ▸ hj)⟩) m
  omega
theorem gs_cnt_full {A : Nat → Prop} {m : Nat} (h : m ≤ gs_cnt A m) : ∀ s, 1 ≤ s → s ≤ m → A s := by
  intro s h1 h2
  apply Classical.byContradiction
  intro hn
  have a := gs_cnt_lt (A := A) (B := fun _ => True) (fun _ _ => trivial) (s := s) trivial hn (m := m) h1 h2
  have b := gs_cnt_le (fun _ => True) m
  omega
theorem gs_cnt_none {A : Nat → Prop} {m : Nat} (h : gs_cnt A m = 0) : ∀ s, 1 ≤ s → s ≤ m → ¬ A s := by
  intro s h1 h2 hA
  have a := gs_cnt_lt (A := fun _ => False) (B := A) (fun _ h => h.elim) (s := s) hA (fun h => h) (m := m) h1 h2
  omega
/-! saturation by rounds: the bit rounds of X, the marked rounds of the reference -/
def gs_Sat (S : Nat → Prop) (R : Nat → Nat → Prop) (b r : Nat) (A : Nat → Prop) : Prop :=
  (∀ s, S s → A s) ∧ (∀ s, A s → gs_L S R s) ∧ ((∀ s, gs_L S R s → A s) ∨ r ≤ gs_cnt A b)
theorem gs_sat0 (S : Nat → Prop) (R : Nat → Nat → Prop) (b : Nat) : gs_Sat S R b 0 S := ⟨fun _ h => h, fun _ h => gs_L_b h, Or.inr (Nat.zero_le _)⟩
theorem gs_satS {S : Nat → Prop} {R : Nat → Nat → Prop} {b r : Nat} {A A' : Nat → Prop} (hb : ∀ s, gs_L S R s → 1 ≤ s ∧ s ≤ b) (hA : gs_Sat S R b r A)
    (h1 : ∀ s, A s → A' s) (h2 : ∀ s, A' s → gs_L S R s) (h3 : ∀ t s, A t → R t s → A' s) : gs_Sat S R b (r + 1) A' := by
  refine ⟨fun s h => h1 s (hA.1 s h), h2, ?_⟩
  by_cases c : ∀ s, gs_L S R s → A s
  · exact Or.inl (fun s h => h1 s (c s h))
  · have hr := hA.2.2.resolve_left c
    have hx : ∃ s, A' s ∧ ¬ A s := by
      apply Classical.byContradiction
      intro hn
      apply c
      intro s hs
      exact gs_L_i hA.1 (fun t s ht hr => Classical.byContradiction fun h => hn ⟨s, h3 t s ht hr, h⟩) hs
    obtain ⟨s, h', hn⟩ := hx
    have hs := hb s (h2 s h')
    have hc := gs_cnt_lt h1 h' hn hs.1 hs.2
    exact Or.inr (by omega)
theorem gs_satE {S : Nat → Prop} {R : Nat → Nat → Prop} {b : Nat} {A : Nat → Prop} (hb : ∀ s, gs_L S R s → 1 ≤ s ∧ s ≤ b) (hA : gs_Sat S R b b A) (s : Nat) : A s ↔ gs_L S R s := by
  refine ⟨hA.2.1 s, fun h => ?_⟩
  cases hA.2.2 with
  | inl c => exact c s h
  | inr c => exact gs_cnt_full c s (hb s h).1 (hb s h).2
def gs_Mk (S : Nat → Prop) (R : Nat → Nat → Prop) (b r : Nat) (A : Nat → Prop) (ch : Prop) : Prop :=
  (∀ s, A s → gs_L S R s) ∧ ((¬ ch ∧ ∀ s, gs_L S R s → A s) ∨ (ch ∧ r ≤ gs_cnt A b))
theorem gs_mkS {S : Nat → Prop} {R : Nat → Nat → Prop} {b r : Nat} {A A' : Nat → Prop} {ch : Prop} (hb : ∀ s, gs_L S R s → 1 ≤ s ∧ s ≤ b) (hr : r ≤ gs_cnt A b)
    (h1 : ∀ s, A s → A' s) (h2 : ∀ s, A' s → gs_L S R s) (h3 : ch → ∃ s, A' s ∧ ¬ A s) (h4 : ¬ ch → (∀ s, S s → A' s) ∧ (∀ t s, A' t → R t s → A' s)) : gs_Mk S R b (r + 1) A' ch := by
  refine ⟨h2, ?_⟩
  by_cases c : ch
  · obtain ⟨s, h', hn⟩ := h3 c
    have hs := hb s (h2 s h')
    have hc := gs_cnt_lt h1 h' hn hs.1 hs.2
    exact Or.inr ⟨c, by omega⟩
  · exact Or.inl ⟨c, fun s hs => gs_L_i (h4 c).1 (h4 c).2 hs⟩
theorem gs_mkE {S : Nat → Prop} {R : Nat → Nat → Prop} {b r : Nat} {A : Nat → Prop} {ch : Prop} (hA : gs_Mk S R b r A ch) (h : ¬ ch ∨ b < r) (s : Nat) : A s ↔ gs_L S R s := by
  refine ⟨hA.1 s, fun hs => ?_⟩
  cases hA.2 with
  | inl c => exact c.2 s hs
  | inr c =>
    cases h with
    | inl h => exact absurd c.1 h
    | inr h => have := gs_cnt_le A b; omega
/-! paths -/
def gs_Pl (E : Nat → Nat → Prop) (a : Nat) : Nat → Prop := gs_L (E a) E
def gs_Bk (C : Nat → Prop) (E : Nat → Nat → Prop) : Nat → Prop := gs_L C (fun t s => E s t)
theorem gs_Pl_pre {E : Nat → Nat → Prop} {a c x : Nat} (h : E a c) (p : gs_Pl E c x) : gs_Pl E a x :=
  gs_L_i (A := gs_Pl E a) (fun _ he => gs_L_s (gs_L_b h) he) (fun _ _ ht hr => gs_L_s ht hr) p
theorem gs_Bk_pre {C : Nat → Prop} {E : Nat → Nat → Prop} {a x : Nat} (p : gs_Pl E a x) (h : gs_Bk C E x) : gs_Bk C E a := by
  have h0 : ∀ y, gs_Pl E a y → gs_Bk C E y → gs_Bk C E a := by
    intro y hy
    refine gs_L_i (A := fun y => gs_Bk C E y → gs_Bk C E a) ?_ ?_ hy
    · intro c hc hb
      exact gs_L_s hb hc
    · intro t s ht hr hb
      exact ht (gs_L_s hb hr)
  exact h0 x p h
theorem gs_Bk_Pl {E : Nat → Nat → Prop} {a u : Nat} : gs_Bk (fun s => E s u) E a ↔ gs_Pl E a u := by
  constructor
  · intro h
    exact gs_L_i (A := fun a => gs_Pl E a u) (fun c hc => gs_L_b hc) (fun t s ht hr => gs_Pl_pre hr ht) h
  · intro h
    have h0 : ∀ y, gs_Pl E a y → gs_Bk (fun s => E s y) E a := by
      intro y hy
      refine gs_L_i (A := fun y => gs_Bk (fun s => E s y) E a) (fun c hc => gs_L_b hc) ?_ hy
      intro t s ht hr
      exact gs_L_i (A := gs_Bk (fun z => E z s) E) (fun c hc => gs_L_s (gs_L_b (x := t) hr) hc) (fun _ _ h1 h2 => gs_L_s h1 h2) ht
    exact h0 u h
theorem gs_cyc {E E' : Nat → Nat → Prop} {C : Nat → Prop} {t : Nat} (hE : ∀ s u, E' s u ↔ E s u ∨ (u = t ∧ C s)) (ac : ∀ z, ¬ gs_Pl E z z) : gs_Pl E' t t ↔ gs_Bk C E t := by
  constructor
  · intro h
    have h0 : ∀ y, gs_Pl E' t y → gs_Pl E t y ∨ gs_Bk C E t := by
      intro y hy
      refine gs_L_i (A := fun y => gs_Pl E t y ∨ gs_Bk C E t) ?_ ?_ hy
      · intro c hc
        cases (hE t c).mp hc with
        | inl h => exact Or.inl (gs_L_b h)
        | inr h => exact Or.inr (gs_L_b h.2)
      · intro x y hx hr
        cases hx with
        | inr h => exact Or.inr h
        | inl h =>
          cases (hE x y).mp hr with
          | inl h' => exact Or.inl (gs_L_s h h')
          | inr h' => exact Or.inr (gs_Bk_pre h (gs_L_b h'.2))
    exact (h0 t h).resolve_left (ac t)
  · intro h
    exact gs_L_i (A := fun s => gs_Pl E' s t) (fun c hc => gs_L_b ((hE c t).mpr (Or.inr ⟨rfl, hc⟩))) (fun u s hu hr => gs_Pl_pre ((hE s u).mpr (Or.inl hr)) hu) h
theorem gs_acy {E E' : Nat → Nat → Prop} {C : Nat → Prop} {t : Nat} (hE : ∀ s u, E' s u ↔ E s u ∨ (u = t ∧ C s)) (ac : ∀ z, ¬ gs_Pl E z z) (hn : ¬ gs_Bk C E t) : ∀ z, ¬ gs_Pl E' z z := by
  intro z hz
  have h0 : ∀ y, gs_Pl E' z y → gs_Pl E z y ∨ (gs_Bk C E z ∧ (y = t ∨ gs_Pl E t y)) := by
    intro y hy
    refine gs_L_i (A := fun y => gs_Pl E z y ∨ (gs_Bk C E z ∧ (y = t ∨ gs_Pl E t y))) ?_ ?_ hy
    · intro c hc
      cases (hE z c).mp hc with
      | inl h => exact Or.inl (gs_L_b h)
      | inr h => exact Or.inr ⟨gs_L_b h.2, Or.inl h.1⟩
    · intro x y hx hr
      cases (hE x y).mp hr with
      | inr h' =>
        cases hx with
        | inl h => exact Or.inr ⟨gs_Bk_pre h (gs_L_b h'.2), Or.inl h'.1⟩
        | inr h => exact Or.inr ⟨h.1, Or.inl h'.1⟩
      | inl h' =>
        cases hx with
        | inl h => exact Or.inl (gs_L_s h h')
        | inr h =>
          refine Or.inr ⟨h.1, Or.inr ?_⟩
          cases h.2 with
          | inl e => rw [e] at h'; exact gs_L_b h'
          | inr p => exact gs_L_s p h'
  cases h0 z hz with
  | inl h => exact ac z h
  | inr h =>
    cases h.2 with
    | inl e => rw [e] at h; exact hn h.1
    | inr p => exact hn (gs_Bk_pre p h.1)
theorem gs_acm {E E' : Nat → Nat → Prop} (hE : ∀ s u, E' s u → E s u) (ac : ∀ z, ¬ gs_Pl E z z) : ∀ z, ¬ gs_Pl E' z z :=
  fun z h => ac z (gs_L_m (hE z) hE h)
end
section
/-! the log: T j its transaction, X j its item, K j its kind; st the states -/
def gs_Ed (T : Nat → Nat) (X K st : Nat → Int32) (i j : Nat) : Prop := T i ≠ T j ∧ X i = X j ∧ ¬ ((K i ||| K j) &&& 2 = 0) ∧ ¬ st (T i) = 5 ∧ ¬ st (T j) = 5
def gs_E (n : Nat) (T : Nat → Nat) (X K st : Nat → Int32) (s t : Nat) : Prop := ∃ i j, i < j ∧ j < n ∧ T i = s ∧ T j = t ∧ gs_Ed T X K st i j
def gs_Cf (n : Nat) (T : Nat → Nat) (X K st : Nat → Int32) (t : Nat) (x k : Int32) (s : Nat) : Prop := ∃ i, i < n ∧ T i = s ∧ T i ≠ t ∧ X i = x ∧ ¬ ((K i ||| k) &&& 2 = 0) ∧ ¬ st (T i) = 5
def gs_Lg (n b : Nat) (T : Nat → Nat) (X K : Nat → Int32) (lt li lk : Nat → Int32) : Prop := ∀ j, j < n → lt j = nI (T j) ∧ 1 ≤ T j ∧ T j ≤ b ∧ li j = X j ∧ lk j = K j
def gs_apN (T : Nat → Nat) (n t : Nat) : Nat → Nat := fun j => if j = n then t else T j
theorem gs_apN_s {T : Nat → Nat} {n t : Nat} : gs_apN T n t n = t := if_pos rfl
theorem gs_apN_n {T : Nat → Nat} {n t j : Nat} (h : j ≠ n) : gs_apN T n t j = T j := if_neg h
theorem gs_E_app {n : Nat} {T : Nat → Nat} {X K st : Nat → Int32} {t : Nat} {x k : Int32} (ht : ¬ st t = 5) (s u : Nat) :
    gs_E (n + 1) (gs_apN T n t) (upd X n x) (upd K n k) st s u ↔ gs_E n T X K st s u ∨ (u = t ∧ gs_Cf n T X K st t x k s) := by
  constructor
  · rintro ⟨i, j, hij, hj, rfl, rfl, he⟩
    have hi : i ≠ n := by omega
    unfold gs_Ed at he
    by_cases e : j = n
    · subst e
      rw [gs_apN_s, gs_apN_n hi, pk_us, pk_us, pk_un hi, pk_un hi] at he
      rw [gs_apN_s, gs_apN_n hi]
      exact Or.inr ⟨rfl, i, hij, rfl, he.1, he.2.1, he.2.2.1, he.2.2.2.1⟩
    · rw [gs_apN_n e, gs_apN_n hi, pk_un e, pk_un e, pk_un hi, pk_un hi] at he
      rw [gs_apN_n e, gs_apN_n hi]
      exact Or.inl ⟨i, j, hij, by omega, rfl, rfl, he⟩
  · rintro (⟨i, j, hij, hj, rfl, rfl, he⟩ | ⟨rfl, i, hi, rfl, h1, h2, h3, h4⟩)
    · have hi : i ≠ n := by omega
      have hj' : j ≠ n := by omega
      refine ⟨i, j, hij, by omega, gs_apN_n hi, gs_apN_n hj', ?_⟩
      unfold gs_Ed
      rw [gs_apN_n hj', gs_apN_n hi, pk_un hj', pk_un hj', pk_un hi, pk_un hi]
      exact he
    · have hi' : i ≠ n := by omega
      refine ⟨i, n, hi, by omega, gs_apN_n hi', gs_apN_s, ?_⟩
      unfold gs_Ed
      rw [gs_apN_s, gs_apN_n hi', pk_us, pk_us, pk_un hi', pk_un hi']
      exact ⟨h1, h2, h3, h4, ht⟩
theorem gs_E_c {n : Nat} {T : Nat → Nat} {X K st st' : Nat → Int32} (h : ∀ s, st s = 5 ↔ st' s = 5) (s t : Nat) : gs_E n T X K st s t ↔ gs_E n T X K st' s t := by
  unfold gs_E gs_Ed
  constructor
  · rintro ⟨i, j, a, b, c, d, e1, e2, e3, e4, e5⟩
    exact ⟨i, j, a, b, c, d, e1, e2, e3, fun z => e4 ((h _).mpr z), fun z => e5 ((h _).mpr z)⟩
  · rintro ⟨i, j, a, b, c, d, e1, e2, e3, e4, e5⟩
    exact ⟨i, j, a, b, c, d, e1, e2, e3, fun z => e4 ((h _).mp z), fun z => e5 ((h _).mp z)⟩
theorem gs_E_ab {n : Nat} {T : Nat → Nat} {X K st st' : Nat → Int32} {D : Nat → Prop} (h : ∀ s, st' s = 5 ↔ (st s = 5 ∨ D s)) (s t : Nat) : gs_E n T X K st' s t ↔ gs_E n T X K st s t ∧ ¬ D s ∧ ¬ D t := by
  unfold gs_E gs_Ed
  constructor
  · rintro ⟨i, j, a, b, rfl, rfl, e1, e2, e3, e4, e5⟩
    exact ⟨⟨i, j, a, b, rfl, rfl, e1, e2, e3, fun z => e4 ((h _).mpr (Or.inl z)), fun z => e5 ((h _).mpr (Or.inl z))⟩, fun z => e4 ((h _).mpr (Or.inr z)), fun z => e5 ((h _).mpr (Or.inr z))⟩
  · rintro ⟨⟨i, j, a, b, rfl, rfl, e1, e2, e3, e4, e5⟩, d1, d2⟩
    exact ⟨i, j, a, b, rfl, rfl, e1, e2, e3, fun z => ((h _).mp z).elim e4 d1, fun z => ((h _).mp z).elim e5 d2⟩
theorem gs_E_in {n b : Nat} {T : Nat → Nat} {X K st lt li lk : Nat → Int32} (hL : gs_Lg n b T X K lt li lk) {s t : Nat} (h : gs_E n T X K st s t) : (1 ≤ s ∧ s ≤ b) ∧ (1 ≤ t ∧ t ≤ b) ∧ ¬ st s = 5 ∧ ¬ st t = 5 := by
  obtain ⟨i, j, hij, hj, rfl, rfl, he⟩ := h
  have a := hL i (by omega)
  have c := hL j hj
  exact ⟨⟨a.2.1, a.2.2.1⟩, ⟨c.2.1, c.2.2.1⟩, he.2.2.2.1, he.2.2.2.2⟩
theorem gs_Cf_in {n b : Nat} {T : Nat → Nat} {X K st lt li lk : Nat → Int32} (hL : gs_Lg n b T X K lt li lk) {t : Nat} {x k : Int32} {s : Nat} (h : gs_Cf n T X K st t x k s) : 1 ≤ s ∧ s ≤ b := by
  obtain ⟨i, hi, rfl, _⟩ := h
  have a := hL i hi
  exact ⟨a.2.1, a.2.2.1⟩
/-! first of a kind -/
noncomputable def gs_fst (P : Nat → Prop) : Nat → Nat → Nat
  | 0, _ => 0
  | f + 1, i => @ite Nat (P i) (Classical.propDecidable _) i (gs_fst P f (i + 1))
theorem gs_fst_t {P : Nat → Prop} {f i : Nat} (h : P i) : gs_fst P (f + 1) i = i := by rw [gs_fst, if_pos h]
theorem gs_fst_f {P : Nat → Prop} {f i : Nat} (h : ¬ P i) : gs_fst P (f + 1) i = gs_fst P f (i + 1) := by rw [gs_fst, if_neg h]
theorem gs_fst_or (P : Nat → Prop) (f : Nat) : ∀ i, 1 ≤ i → (gs_fst P f i = 0 ∧ ∀ j, i ≤ j → j < i + f → ¬ P j) ∨ (i ≤ gs_fst P f i ∧ gs_fst P f i < i + f ∧ P (gs_fst P f i)) := by
  induction f with
  | zero => exact fun i _ => Or.inl ⟨rfl, fun j h1 h2 => absurd h2 (by omega)⟩
  | succ f ih =>
    intro i hi
    by_cases h : P i
    · rw [gs_fst_t h]
      exact Or.inr ⟨Nat.le_refl i, by omega, h⟩
    · rw [gs_fst_f h]
      cases ih (i + 1) (by omega) with
      | inl c =>
        refine Or.inl ⟨c.1, fun j h1 h2 => ?_⟩
        by_cases e : j = i
        · rw [e]; exact h
        · exact c.2 j (by omega) (by omega)
      | inr c => exact Or.inr ⟨by omega, by omega, c.2.2⟩
theorem gs_fst_c {P Q : Nat → Prop} (f : Nat) : ∀ i, (∀ j, i ≤ j → j < i + f → (P j ↔ Q j)) → gs_fst P f i = gs_fst Q f i := by
  induction f with
  | zero => exact fun _ _ => rfl
  | succ f ih =>
    intro i h
    have hi := h i (by omega) (by omega)
    by_cases c : P i
    · rw [gs_fst_t c, gs_fst_t (hi.mp c)]
    · rw [gs_fst_f c, gs_fst_f (fun q => c (hi.mpr q))]
      exact ih (i + 1) (fun j h1 h2 => h j (by omega) (by omega))
/-! states -/
def gs_un (s : Int32) : Prop := s = 1 ∨ s = 2
def gs_op (s : Int32) : Prop := s = 1 ∨ s = 2 ∨ s = 3
/-! settling: Rd st t, t is committed and has no open predecessor -/
def gs_Rd (E : Nat → Nat → Prop) (st : Nat → Int32) (t : Nat) : Prop := st t = 3 ∧ ∀ s, E s t → ¬ gs_op (st s)
noncomputable def gs_nx (b : Nat) (E : Nat → Nat → Prop) (st : Nat → Int32) : Nat := gs_fst (gs_Rd E st) b 1
noncomputable def gs_set (b : Nat) (E : Nat → Nat → Prop) : Nat → (Nat → Int32) → (Nat → Int32) → Nat → (Nat → Int32) × (Nat → Int32) × Nat
  | 0, st, so, c => (st, so, c)
  | f + 1, st, so, c => if gs_nx b E st = 0 then (st, so, c) else gs_set b E f (upd st (gs_nx b E st) 4) (upd so c (nI (gs_nx b E st))) (c + 1)
theorem gs_set_0 {b : Nat} {E : Nat → Nat → Prop} {f : Nat} {st so : Nat → Int32} {c : Nat} (h : gs_nx b E st = 0) : gs_set b E f st so c = (st, so, c) := by
  cases f with
  | zero => rfl
  | succ f => rw [gs_set, if_pos h]
theorem gs_set_s {b : Nat} {E : Nat → Nat → Prop} {f : Nat} {st so : Nat → Int32} {c : Nat} (h : ¬ gs_nx b E st = 0) :
    gs_set b E (f + 1) st so c = gs_set b E f (upd st (gs_nx b E st) 4) (upd so c (nI (gs_nx b E st))) (c + 1) := by rw [gs_set, if_neg h]
theorem gs_nx_or (b : Nat) (E : Nat → Nat → Prop) (st : Nat → Int32) : gs_nx b E st = 0 ∨ (1 ≤ gs_nx b E st ∧ gs_nx b E st ≤ b ∧ gs_Rd E st (gs_nx b E st)) := by
  cases gs_fst_or (gs_Rd E st) b 1 (Nat.le_refl 1) with
  | inl h => exact Or.inl h.1
  | inr h => exact Or.inr ⟨h.1, by have := h.2.1; unfold gs_nx; omega, h.2.2⟩
/-- settling aborts nothing, and its count stays within 64 -/
theorem gs_set_ab (b : Nat) (E : Nat → Nat → Prop) (f : Nat) : ∀ (st so : Nat → Int32) (c : Nat), (∀ s, (gs_set b E f st so c).1 s = 5 ↔ st s = 5) ∧ (gs_set b E f st so c).2.2 ≤ c + f := by
  induction f with
  | zero => exact fun st so c => ⟨fun s => Iff.rfl, Nat.le_refl c⟩
  | succ f ih =>
    intro st so c
    by_cases h : gs_nx b E st = 0
    · rw [gs_set_0 h]
      exact ⟨fun s => Iff.rfl, by show c ≤ c + (f + 1); omega⟩
    · rw [gs_set_s h]
      have i := ih (upd st (gs_nx b E st) 4) (upd so c (nI (gs_nx b E st))) (c + 1)
      refine ⟨fun s => (i.1 s).trans ?_, by have := i.2; omega⟩
      have r := ((gs_nx_or b E st).resolve_left h).2.2.1
      by_cases e : s = gs_nx b E st
      · rw [e, pk_us, r]
        decide
      · rw [pk_un e]
/-! committing waiters -/
def gs_Go (F : Nat → Nat → Prop) (st : Nat → Int32) (t : Nat) : Prop := st t = 2 ∧ ∀ w, F t w → ¬ gs_un (st w)
def gs_Cm (b : Nat) (F : Nat → Nat → Prop) (st : Nat → Int32) (x : Nat) : Prop :=
  ∀ A : Nat → Prop, (∀ t, 1 ≤ t → t ≤ b → st t = 2 → (∀ w, F t w → gs_un (st w) → A w) → A t) → A x
/-- on the way: st' is st with some of the waiters that may commit committed; c of them -/
def gs_Wy (b : Nat) (F : Nat → Nat → Prop) (st : Nat → Int32) (c : Nat) (st' : Nat → Int32) : Prop :=
  (∀ j, st' j = st j ∨ (st j = 2 ∧ 1 ≤ j ∧ j ≤ b ∧ gs_Cm b F st j ∧ st' j = 3)) ∧ c + gs_cnt (fun j => st' j = 2) b = gs_cnt (fun j => st j = 2) b
theorem gs_wy0 (b : Nat) (F : Nat → Nat → Prop) (st : Nat → Int32) : gs_Wy b F st 0 st := ⟨fun _ => Or.inl rfl, Nat.zero_add _⟩
theorem gs_wyS {b : Nat} {F : Nat → Nat → Prop} {st st' : Nat → Int32} {c t : Nat} (h : gs_Wy b F st c st') (h1 : 1 ≤ t) (h2 : t ≤ b) (hg : gs_Go F st' t) : gs_Wy b F st (c + 1) (upd st' t 3) := by
  have ht : st t = 2 := by
    cases h.1 t with
    | inl e => rw [← e]; exact hg.1
    | inr e => exact e.1
  have hc : gs_Cm b F st t := by
    intro A hA
    refine hA t h1 h2 ht (fun w hw hu => ?_)
    cases h.1 w with
    | inl e => exact absurd (e ▸ hu) (hg.2 w hw)
    | inr e => exact e.2.2.2.1 A hA
  constructor
  · intro j
    by_cases e : j = t
    · rw [e, pk_us]
      exact Or.inr ⟨ht, h1, h2, hc, rfl⟩
    · rw [pk_un e]
      exact h.1 j
  · have r : gs_cnt (fun j => upd st' t 3 j = 2) b + 1 = gs_cnt (fun j => st' j = 2) b := by
      refine gs_cnt_rm (s := t) hg.1 ?_ ?_ h1 h2
      · rw [pk_us]
        decide
      · intro j hj
        rw [pk_un hj]
    have := h.2
    omega
/-- at the end: nobody may commit any more; then the states and the count are fixed -/
theorem gs_wyE {b : Nat} {F : Nat → Nat → Prop} {st p q : Nat → Int32} {c d : Nat} (hp : gs_Wy b F st c p) (hq : gs_Wy b F st d q)
    (ep : ∀ t, 1 ≤ t → t ≤ b → ¬ gs_Go F p t) (eq : ∀ t, 1 ≤ t → t ≤ b → ¬ gs_Go F q t) : p = q ∧ c = d := by
  have all : ∀ (q : Nat → Int32) (d : Nat), gs_Wy b F st d q → (∀ t, 1 ≤ t → t ≤ b → ¬ gs_Go F q t) → ∀ j, gs_Cm b F st j → q j = 3 := by
    intro q d hq eq j hj
    refine hj (fun j => q j = 3) ?_
    intro t h1 h2 ht hw
    cases hq.1 t with
    | inr e => exact e.2.2.2.2
    | inl e =>
      refine absurd ⟨e.trans ht, fun w hF hu => ?_⟩ (eq t h1 h2)
      cases hq.1 w with
      | inl e' =>
        have h3 : q w = 3 := hw w hF (e' ▸ hu)
        rw [h3] at hu
        exact absurd hu (by unfold gs_un; decide)
      | inr e' =>
        rw [e'.2.2.2.2] at hu
        exact absurd hu (by unfold gs_un; decide)
  have e : p = q := by
    funext j
    cases hp.1 j with
    | inr a => rw [a.2.2.2.2, all q d hq eq j a.2.2.2.1]
    | inl a =>
      cases hq.1 j with
      | inl a' => rw [a, a']
      | inr a' => rw [all p c hp ep j a'.2.2.2.1, a'.2.2.2.2]
  subst e
  exact ⟨rfl, by have := hp.2; have := hq.2; omega⟩
theorem gs_wy_ab {b : Nat} {F : Nat → Nat → Prop} {st p : Nat → Int32} {c : Nat} (hp : gs_Wy b F st c p) (s : Nat) : p s = 5 ↔ st s = 5 := by
  cases hp.1 s with
  | inl e => rw [e]
  | inr e => rw [e.1, e.2.2.2.2]; decide
/-! aborting: the members of D among 1 .. u get state 5 -/
noncomputable def gs_abs (D : Nat → Prop) (st : Nat → Int32) (u : Nat) : Nat → Int32 := fun j => @ite Int32 (1 ≤ j ∧ j ≤ u ∧ D j) (Classical.propDecidable _) 5 (st j)
theorem gs_abs_t {D : Nat → Prop} {st : Nat → Int32} {u j : Nat} (h : 1 ≤ j ∧ j ≤ u ∧ D j) : gs_abs D st u j = 5 := by
  unfold gs_abs
  rw [if_pos h]
theorem gs_abs_f {D : Nat → Prop} {st : Nat → Int32} {u j : Nat} (h : ¬ (1 ≤ j ∧ j ≤ u ∧ D j)) : gs_abs D st u j = st j := by
  unfold gs_abs
  rw [if_neg h]
theorem gs_abs_0 (D : Nat → Prop) (st : Nat → Int32) : gs_abs D st 0 = st := funext fun j => gs_abs_f (fun h => by omega)
theorem gs_abs_s {D : Nat → Prop} {st : Nat → Int32} {u : Nat} (h : D (u + 1)) : upd (gs_abs D st u) (u + 1) 5 = gs_abs D st (u + 1) := by
  funext j
  by_cases e : j = u + 1
  · rw [e, pk_us, gs_abs_t ⟨by omega, by omega, h⟩]
  · rw [pk_un e]
    by_cases c : 1 ≤ j ∧ j ≤ u ∧ D j
    · rw [gs_abs_t c, gs_abs_t ⟨c.1, by omega, c.2.2⟩]
    · rw [gs_abs_f c, gs_abs_f (fun z => c ⟨z.1, by omega, z.2.2⟩)]
theorem gs_abs_n {D : Nat → Prop} {st : Nat → Int32} {u : Nat} (h : ¬ D (u + 1)) : gs_abs D st u = gs_abs D st (u + 1) := by
  funext j
  by_cases c : 1 ≤ j ∧ j ≤ u ∧ D j
  · rw [gs_abs_t c, gs_abs_t ⟨c.1, by omega, c.2.2⟩]
  · rw [gs_abs_f c, gs_abs_f (fun z => ?_)]
    by_cases e : j = u + 1
    · exact h (e ▸ z.2.2)
    · exact c ⟨z.1, by omega, z.2.2⟩
theorem gs_abs_5 {D : Nat → Prop} {st : Nat → Int32} {b : Nat} (hD : ∀ j, D j → 1 ≤ j ∧ j ≤ b) (s : Nat) : gs_abs D st b s = 5 ↔ (st s = 5 ∨ D s) := by
  by_cases c : D s
  · rw [gs_abs_t ⟨(hD s c).1, (hD s c).2, c⟩]
    exact ⟨fun _ => Or.inr c, fun _ => rfl⟩
  · rw [gs_abs_f (fun z => c z.2.2)]
    exact ⟨Or.inl, fun h => h.resolve_right c⟩
/-- the predecessors behind an abort, worked up to u -/
def gs_prA (D : Nat → Prop) (pr : Nat → Int64) (u : Nat) (p : Nat → Int64) : Prop :=
  (∀ j, j < 1 ∨ u < j → p j = pr j) ∧ ∀ j, 1 ≤ j → j ≤ u → ∀ s, gs_m (p j) s ↔ gs_m (pr j) s ∧ ¬ D s ∧ ¬ D j
theorem gs_prA_0 (D : Nat → Prop) (pr : Nat → Int64) : gs_prA D pr 0 pr := ⟨fun _ _ => rfl, fun j h1 h2 => absurd h2 (by omega)⟩
theorem gs_prA_s {D : Nat → Prop} {pr p : Nat → Int64} {u : Nat} (h : gs_prA D pr u p) {w : Int64} (hw : ∀ s, gs_m w s ↔ gs_m (pr (u + 1)) s ∧ ¬ D s ∧ ¬ D (u + 1)) : gs_prA D pr (u + 1) (vp_updL p (u + 1) w) := by
  constructor
  · intro j hj
    rw [pk_uLn (by omega)]
    exact h.1 j (by omega)
  · intro j h1 h2 s
    by_cases e : j = u + 1
    · subst e
      rw [pk_uLs]
      exact hw s
    · rw [pk_uLn e]
      exact h.2 j h1 (by omega) s
/-- the relation of X's graph to the log -/
def gs_PE (pr : Nat → Int64) (E : Nat → Nat → Prop) : Prop := ∀ t, 1 ≤ t → t ≤ 64 → ∀ s, gs_m (pr t) s ↔ E s t
theorem gs_PE_ab {n b : Nat} {T : Nat → Nat} {X K st lt li lk : Nat → Int32} {pr p : Nat → Int64} {D : Nat → Prop} (hL : gs_Lg n b T X K lt li lk) (h : gs_PE pr (gs_E n T X K st))
    (hD : ∀ j, D j → 1 ≤ j ∧ j ≤ b) (hp : gs_prA D pr b p) : gs_PE p (gs_E n T X K (gs_abs D st b)) := by
  intro t h1 h2 s
  rw [gs_E_ab (gs_abs_5 hD) s t]
  by_cases c : t ≤ b
  · rw [hp.2 t h1 c s, h t h1 h2 s]
  · rw [hp.1 t (Or.inr (by omega)), h t h1 h2 s]
    constructor
    · intro e
      exact absurd (gs_E_in hL e).2.1.2 c
    · exact fun e => e.1
theorem gs_PE_c {pr : Nat → Int64} {E E' : Nat → Nat → Prop} (h : gs_PE pr E) (hE : ∀ s t, E s t ↔ E' s t) : gs_PE pr E' := fun t h1 h2 s => (h t h1 h2 s).trans (hE s t)
theorem gs_PE_app {n : Nat} {T : Nat → Nat} {X K st : Nat → Int32} {pr : Nat → Int64} {t : Nat} {x k : Int32} {w : Int64} (h : gs_PE pr (gs_E n T X K st)) (ht : ¬ st t = 5) (h1 : 1 ≤ t) (h2 : t ≤ 64)
    (hw : ∀ s, gs_m w s ↔ gs_Cf n T X K st t x k s) : gs_PE (vp_updL pr t (pr t ||| w)) (gs_E (n + 1) (gs_apN T n t) (upd X n x) (upd K n k) st) := by
  intro u u1 u2 s
  rw [gs_E_app ht s u]
  by_cases e : u = t
  · subst e
    rw [pk_uLs, gs_m_or, h u u1 u2 s, hw s]
    exact ⟨fun z => z.elim Or.inl (fun y => Or.inr ⟨rfl, y⟩), fun z => z.elim Or.inl (fun y => Or.inr y.2)⟩
  · rw [pk_uLn e, h u u1 u2 s]
    exact ⟨Or.inl, fun z => z.elim (fun y => y) (fun y => absurd y.1 e)⟩
theorem gs_Lg_app {n b : Nat} {T : Nat → Nat} {X K lt li lk : Nat → Int32} (hL : gs_Lg n b T X K lt li lk) {t : Nat} {x k : Int32} (h1 : 1 ≤ t) (h2 : t ≤ b) :
    gs_Lg (n + 1) b (gs_apN T n t) (upd X n x) (upd K n k) (upd lt n (nI t)) (upd li n x) (upd lk n k) := by
  intro j hj
  by_cases e : j = n
  · subst e
    rw [gs_apN_s, pk_us, pk_us, pk_us, pk_us, pk_us]
    exact ⟨rfl, h1, h2, rfl, rfl⟩
  · rw [gs_apN_n e, pk_un e, pk_un e, pk_un e, pk_un e, pk_un e]
    exact hL j (by omega)
theorem gs_Lg_keep {n b : Nat} {T : Nat → Nat} {X K lt li lk : Nat → Int32} (hL : gs_Lg n b T X K lt li lk) (a x k : Int32) : gs_Lg n b T X K (upd lt n a) (upd li n x) (upd lk n k) := by
  intro j hj
  have e : j ≠ n := by omega
  rw [pk_un e, pk_un e, pk_un e]
  exact hL j hj
theorem gs_Lg_b {n b : Nat} {T : Nat → Nat} {X K lt li lk : Nat → Int32} (hL : gs_Lg n b T X K lt li lk) : gs_Lg n (b + 1) T X K lt li lk :=
  fun j hj => ⟨(hL j hj).1, (hL j hj).2.1, Nat.le_succ_of_le (hL j hj).2.2.1, (hL j hj).2.2.2⟩
/-! facts of the reference: R f read what S f wrote -/
def gs_F (f : Nat) (R S : Nat → Nat) (t w : Nat) : Prop := ∃ i, i < f ∧ R i = t ∧ S i = w
def gs_Fc (f b : Nat) (R S : Nat → Nat) (rd sr : Nat → Int32) : Prop := ∀ j, j < f → rd j = nI (R j) ∧ sr j = nI (S j) ∧ (1 ≤ R j ∧ R j ≤ b) ∧ (1 ≤ S j ∧ S j ≤ b)
def gs_RF (rf : Nat → Int64) (F : Nat → Nat → Prop) : Prop := ∀ t, 1 ≤ t → t ≤ 64 → ∀ s, gs_m (rf t) s ↔ F t s
theorem gs_Fc_app {f b : Nat} {R S : Nat → Nat} {rd sr : Nat → Int32} (h : gs_Fc f b R S rd sr) {t w : Nat} (ht : 1 ≤ t ∧ t ≤ b) (hw : 1 ≤ w ∧ w ≤ b) :
    gs_Fc (f + 1) b (gs_apN R f t) (gs_apN S f w) (upd rd f (nI t)) (upd sr f (nI w)) := by
  intro j hj
  by_cases e : j = f
  · subst e
    rw [gs_apN_s, gs_apN_s, pk_us, pk_us]
    exact ⟨rfl, rfl, ht, hw⟩
  · rw [gs_apN_n e, gs_apN_n e, pk_un e, pk_un e]
    exact h j (by omega)
theorem gs_F_app {f : Nat} {R S : Nat → Nat} {t w : Nat} (a c : Nat) : gs_F (f + 1) (gs_apN R f t) (gs_apN S f w) a c ↔ gs_F f R S a c ∨ (a = t ∧ c = w) := by
  constructor
  · rintro ⟨i, hi, rfl, rfl⟩
    by_cases e : i = f
    · subst e
      rw [gs_apN_s, gs_apN_s]
      exact Or.inr ⟨rfl, rfl⟩
    · rw [gs_apN_n e, gs_apN_n e]
      exact Or.inl ⟨i, by omega, rfl, rfl⟩
  · rintro (⟨i, hi, rfl, rfl⟩ | ⟨rfl, rfl⟩)
    · have e : i ≠ f := by omega
      exact ⟨i, by omega, gs_apN_n e, gs_apN_n e⟩
    · exact ⟨f, by omega, gs_apN_s, gs_apN_s⟩
theorem gs_RF_app {f : Nat} {R S : Nat → Nat} {rf : Nat → Int64} {t w : Nat} {z : Int64} (h : gs_RF rf (gs_F f R S)) (hz : ∀ s, gs_m z s ↔ s = w) : gs_RF (vp_updL rf t (rf t ||| z)) (gs_F (f + 1) (gs_apN R f t) (gs_apN S f w)) := by
  intro u h1 h2 s
  rw [gs_F_app]
  by_cases e : u = t
  · subst e
    rw [pk_uLs, gs_m_or, h u h1 h2 s, hz s]
    exact ⟨fun c => c.elim Or.inl (fun y => Or.inr ⟨rfl, y⟩), fun c => c.elim Or.inl (fun y => Or.inr y.2)⟩
  · rw [pk_uLn e, h u h1 h2 s]
    exact ⟨Or.inl, fun c => c.elim (fun y => y) (fun y => absurd y.1 e)⟩
theorem gs_Fc_b {f b : Nat} {R S : Nat → Nat} {rd sr : Nat → Int32} (h : gs_Fc f b R S rd sr) : gs_Fc f (b + 1) R S rd sr :=
  fun j hj => ⟨(h j hj).1, (h j hj).2.1, ⟨(h j hj).2.2.1.1, Nat.le_succ_of_le (h j hj).2.2.1.2⟩, ⟨(h j hj).2.2.2.1, Nat.le_succ_of_le (h j hj).2.2.2.2⟩⟩
/-! the last of a kind, one more than its place; 0 if there is none -/
noncomputable def gs_lst (P : Nat → Prop) : Nat → Nat
  | 0 => 0
  | m + 1 => @ite Nat (P m) (Classical.propDecidable _) (m + 1) (gs_lst P m)
theorem gs_lst_t {P : Nat → Prop} {m : Nat} (h : P m) : gs_lst P (m + 1) = m + 1 := by rw [gs_lst, if_pos h]
theorem gs_lst_f {P : Nat → Prop} {m : Nat} (h : ¬ P m) : gs_lst P (m + 1) = gs_lst P m := by rw [gs_lst, if_neg h]
theorem gs_lst_in {P : Nat → Prop} {m i : Nat} (h : gs_lst P m = i + 1) : i < m ∧ P i := by
  induction m with
  | zero => exact absurd h (by rw [gs_lst]; omega)
  | succ m ih =>
    by_cases c : P m
    · rw [gs_lst_t c] at h
      obtain rfl : m = i := by omega
      exact ⟨by omega, c⟩
    · rw [gs_lst_f c] at h
      exact ⟨by have := (ih h).1; omega, (ih h).2⟩
theorem gs_lst_c {P Q : Nat → Prop} {m : Nat} (h : ∀ j, j < m → (P j ↔ Q j)) : gs_lst P m = gs_lst Q m := by
  induction m with
  | zero => rfl
  | succ m ih =>
    have e := ih (fun j hj => h j (by omega))
    by_cases c : P m
    · rw [gs_lst_t c, gs_lst_t ((h m (by omega)).mp c)]
    · rw [gs_lst_f c, gs_lst_f (fun q => c ((h m (by omega)).mpr q)), e]
/-- a transaction's number -/
theorem gs_tc (t : Int32) {b : Nat} (hb : b ≤ 64) : (∃ j, 1 ≤ j ∧ j ≤ b ∧ t = nI j) ∨ t < 1 ∨ (¬ t < 1 ∧ ¬ t ≤ nI b) := by
  by_cases h1 : t < 1
  · exact Or.inr (Or.inl h1)
  · have h0 : ¬ t < 0 := fun h => h1 (Int32.lt_trans h (by decide))
    obtain ⟨j, hj, rfl⟩ := nI_of h0
    by_cases h2 : j ≤ b
    · refine Or.inl ⟨j, ?_, h2, rfl⟩
      apply Classical.byContradiction
      intro h
      obtain rfl : j = 0 := by omega
      exact h1 (by decide)
    · exact Or.inr (Or.inr ⟨h1, fun h => h2 ((nI_leI hj (by omega)).mp h)⟩)
end
section
/-! X: single transactions, sets of them, closures -/
section
variable {sl it : Int32} {b n c : Nat} {st : Nat → Int32} {pr rf : Nat → Int64} {lt li lk lv so : Nat → Int32}
theorem xo_isOpen {post : Int32 → Prop} {t : Nat} (ht : t ≤ 64) (h1 : gs_op (st t) → post 1) (h0 : ¬ gs_op (st t) → post 0) : wpX_isOpen post (sl, it, nI b, nI n, nI c, st, pr, rf, lt, li, lk, lv, so) (nI t) := by
  have hi : vp_in (nI t) 65 := vp_in_nI (by omega) (by omega)
  have hc : (nI t).toNatClampNeg = t := nI_clamp (by omega)
  unfold wpX_isOpen
  dsimp only
  rw [hc]
  exact ⟨hi, br_c (fun a => h1 (Or.inl a)) (fun a => ⟨hi, br_c (fun b => h1 (Or.inr (Or.inl b))) (fun b => ⟨hi, br_c (fun d => h1 (Or.inr (Or.inr d))) (fun d => h0 (fun z => z.elim a (fun z => z.elim b d)))⟩)⟩)⟩
theorem xo_isUnf {post : Int32 → Prop} {t : Nat} (ht : t ≤ 64) (h1 : gs_un (st t) → post 1) (h0 : ¬ gs_un (st t) → post 0) : wpX_isUnfinished post (sl, it, nI b, nI n, nI c, st, pr, rf, lt, li, lk, lv, so) (nI t) := by
  have hi : vp_in (nI t) 65 := vp_in_nI (by omega) (by omega)
  have hc : (nI t).toNatClampNeg = t := nI_clamp (by omega)
  unfold wpX_isUnfinished
  dsimp only
  rw [hc]
  exact ⟨hi, br_c (fun a => h1 (Or.inl a)) (fun a => ⟨hi, br_c (fun b => h1 (Or.inr b)) (fun b => h0 (fun z => z.elim a b))⟩)⟩
theorem xo_bit {post : Int64 → Prop} {t : Nat} (h1 : 1 ≤ t) (h2 : t ≤ 64) (hp : post (gs_bit t)) : wpX_bit post () (nI t) := by
  unfold wpX_bit
  rw [gs_bit_e h1 h2]
  exact hp
theorem xo_has {post : Int32 → Prop} {w : Int64} {t : Nat} (h1 : 1 ≤ t) (h2 : t ≤ 64) (p1 : gs_m w t → post 1) (p0 : ¬ gs_m w t → post 0) : wpX_contains post () w (nI t) := by
  unfold wpX_contains
  exact xo_bit h1 h2 (br_c (fun z => p0 ((gs_has h1 h2).mp z)) (fun z => p1 (Classical.byContradiction fun y => z ((gs_has h1 h2).mpr y))))
theorem xo_begun1 {post : Int32 → Prop} {t : Nat} (h1 : 1 ≤ t) (h2 : t ≤ b) (hb : b ≤ 64) (hp : post 1) : wpX_isBegun post (sl, it, nI b, nI n, nI c, st, pr, rf, lt, li, lk, lv, so) (nI t) :=
  br_f (fun h => by have := (nI_ltI (b := 1) (by omega) (by omega)).mp h; omega) (br_f (fun h => by have := (nI_ltI (by omega) (by omega)).mp h; omega) hp)
theorem xo_begun0 {post : Int32 → Prop} {t : Int32} (h : t < 1 ∨ (¬ t < 1 ∧ ¬ t ≤ nI b)) (hp : post 0) : wpX_isBegun post (sl, it, nI b, nI n, nI c, st, pr, rf, lt, li, lk, lv, so) t := by
  cases h with
  | inl h => exact br_t h hp
  | inr h => exact br_f h.1 (br_t (Int32.not_le.mp h.2) hp)
theorem xo_item1 {post : Int32 → Prop} {x : Int32} (h0 : ¬ x < 0) (h1 : x < it) (hp : post 1) : wpX_isItem post (sl, it, nI b, nI n, nI c, st, pr, rf, lt, li, lk, lv, so) x :=
  br_f h0 (br_f (Int32.not_le.mpr h1) hp)
theorem xo_item0 {post : Int32 → Prop} {x : Int32} (h : x < 0 ∨ ¬ x < it) (hp : post 0) : wpX_isItem post (sl, it, nI b, nI n, nI c, st, pr, rf, lt, li, lk, lv, so) x := by
  by_cases h0 : x < 0
  · exact br_t h0 hp
  · exact br_f h0 (br_t (Int32.not_lt.mp (h.resolve_left h0)) hp)
theorem xo_countOpen {post : Int32 → Prop} (hb : b ≤ 64) (hp : post (nI (gs_cnt (fun t => gs_op (st t)) b))) : wpX_countOpen post (sl, it, nI b, nI n, nI c, st, pr, rf, lt, li, lk, lv, so) := by
  unfold wpX_countOpen
  dsimp only
  refine pk_loop (σ := Nat) (fun m i s => wX_countOpen_4 post sl it (nI b) (nI n) (nI c) st pr rf lt li lk lv so m (nI s) (nI (i + 1))) (fun i s => s = gs_cnt (fun t => gs_op (st t)) i) b 0 0 (Nat.zero_le b) rfl ?_ ?_
  · intro m s hs
    subst hs
    exact pk_lt b (b + 1) (fun _ => hp) (fun h => absurd h (by omega))
  · intro m i s hi hs k
    refine pk_lt b (i + 1) (fun h => absurd h (by omega)) (fun _ => ?_)
    refine xo_isOpen (by omega) (fun h => ?_) (fun h => ?_)
    · exact br_f (by decide) (nm_r (nI_1 s) (nm_r (nI_1 (i + 1)) (k (s + 1) (by rw [hs, gs_cnt_t h]))))
    · exact br_t rfl (nm_r (nI_1 (i + 1)) (k s (by rw [hs, gs_cnt_f h])))
theorem xo_add1 {P : Nat → Prop} {s : Int64} {i : Nat} (hs : ∀ t, gs_m s t ↔ (1 ≤ t ∧ t ≤ i) ∧ P t) (hi : i + 1 ≤ 64) (h : P (i + 1)) (t : Nat) : gs_m (s ||| gs_bit (i + 1)) t ↔ (1 ≤ t ∧ t ≤ i + 1) ∧ P t := by
  rw [gs_m_or, hs t, gs_m_bit (by omega) hi]
  constructor
  · rintro (⟨h1, h2⟩ | rfl)
    · exact ⟨⟨h1.1, by omega⟩, h2⟩
    · exact ⟨⟨by omega, by omega⟩, h⟩
  · rintro ⟨h1, h2⟩
    by_cases e : t = i + 1
    · exact Or.inr e
    · exact Or.inl ⟨⟨h1.1, by omega⟩, h2⟩
theorem xo_add0 {P : Nat → Prop} {s : Int64} {i : Nat} (hs : ∀ t, gs_m s t ↔ (1 ≤ t ∧ t ≤ i) ∧ P t) (h : ¬ P (i + 1)) (t : Nat) : gs_m s t ↔ (1 ≤ t ∧ t ≤ i + 1) ∧ P t := by
  rw [hs t]
  constructor
  · rintro ⟨h1, h2⟩
    exact ⟨⟨h1.1, by omega⟩, h2⟩
  · rintro ⟨h1, h2⟩
    refine ⟨⟨h1.1, ?_⟩, h2⟩
    by_cases e : t = i + 1
    · rw [e] at h2
      exact absurd h2 h
    · omega
theorem xo_unfSet {post : Int64 → Prop} (hb : b ≤ 64) (hp : ∀ w, (∀ t, gs_m w t ↔ (1 ≤ t ∧ t ≤ b) ∧ gs_un (st t)) → post w) : wpX_unfinishedSet post (sl, it, nI b, nI n, nI c, st, pr, rf, lt, li, lk, lv, so) := by
  unfold wpX_unfinishedSet
  dsimp only
  refine pk_loop (σ := Int64) (fun m i s => wX_unfinishedSet_4 post sl it (nI b) (nI n) (nI c) st pr rf lt li lk lv so m s (nI (i + 1))) (fun i s => ∀ t, gs_m s t ↔ (1 ≤ t ∧ t ≤ i) ∧ gs_un (st t)) b 0 0 (Nat.zero_le b) ?_ ?_ ?_
  · exact fun t => ⟨fun h => absurd h (gs_m_0 t), fun h => absurd h.1 (by omega)⟩
  · intro m s hs
    exact pk_lt b (b + 1) (fun _ => hp s hs) (fun h => absurd h (by omega))
  · intro m i s hi hs k
    refine pk_lt b (i + 1) (fun h => absurd h (by omega)) (fun _ => ?_)
    refine xo_isUnf (by omega) (fun h => ?_) (fun h => ?_)
    · exact br_f (by decide) (xo_bit (by omega) (by omega) (nm_e (nm_r (nI_1 (i + 1)) (k _ (xo_add1 hs (by omega) h)))))
    · exact br_t rfl (nm_r (nI_1 (i + 1)) (k s (xo_add0 hs h)))
theorem xo_openSet {post : Int64 → Prop} (hb : b ≤ 64) (hp : ∀ w, (∀ t, gs_m w t ↔ (1 ≤ t ∧ t ≤ b) ∧ gs_op (st t)) → post w) : wpX_openSet post (sl, it, nI b, nI n, nI c, st, pr, rf, lt, li, lk, lv, so) := by
  unfold wpX_openSet
  dsimp only
  refine pk_loop (σ := Int64) (fun m i s => wX_openSet_4 post sl it (nI b) (nI n) (nI c) st pr rf lt li lk lv so m s (nI (i + 1))) (fun i s => ∀ t, gs_m s t ↔ (1 ≤ t ∧ t ≤ i) ∧ gs_op (st t)) b 0 0 (Nat.zero_le b) ?_ ?_ ?_
  · exact fun t => ⟨fun h => absurd h (gs_m_0 t), fun h => absurd h.1 (by omega)⟩
  · intro m s hs
    exact pk_lt b (b + 1) (fun _ => hp s hs) (fun h => absurd h (by omega))
  · intro m i s hi hs k
    refine pk_lt b (i + 1) (fun h => absurd h (by omega)) (fun _ => ?_)
    refine xo_isOpen (by omega) (fun h => ?_) (fun h => ?_)
    · exact br_f (by decide) (xo_bit (by omega) (by omega) (nm_e (nm_r (nI_1 (i + 1)) (k _ (xo_add1 hs (by omega) h)))))
    · exact br_t rfl (nm_r (nI_1 (i + 1)) (k s (xo_add0 hs h)))
theorem xo_withAnc {post : Int64 → Prop} {E : Nat → Nat → Prop} {w : Int64} (hb : b ≤ 64) (hE : gs_PE pr E) (hEb : ∀ s t, E s t → (1 ≤ s ∧ s ≤ b) ∧ (1 ≤ t ∧ t ≤ b)) (hS : ∀ s, gs_m w s → 1 ≤ s ∧ s ≤ b)
    (hp : ∀ w', (∀ s, gs_m w' s ↔ gs_Bk (gs_m w) E s) → post w') : wpX_withAncestors post (sl, it, nI b, nI n, nI c, st, pr, rf, lt, li, lk, lv, so) w := by
  have hL : ∀ s, gs_L (gs_m w) (fun t s => E s t) s → 1 ≤ s ∧ s ≤ b := fun s h => gs_L_i (A := fun s => 1 ≤ s ∧ s ≤ b) hS (fun t s _ hr => (hEb s t hr).1) h
  unfold wpX_withAncestors
  dsimp only
  refine pk_loop (σ := Int64) (fun m r s => wX_withAncestors_5 post sl it (nI b) (nI n) (nI c) st pr rf lt li lk lv so m s (nI r)) (fun r s => gs_Sat (gs_m w) (fun t s => E s t) b r (gs_m s)) b 0 w (Nat.zero_le b) (gs_sat0 _ _ b) ?_ ?_
  · intro m s hs
    exact pk_le b b (fun _ => hp s (gs_satE hL hs)) (fun h => absurd h (by omega))
  · intro m r s hr hs k
    refine pk_le b r (fun h => absurd h (by omega)) (fun _ => ?_)
    refine pk_loop (σ := Int64) (fun q i a => wX_withAncestors_17 post (wX_withAncestors_5 post sl it (nI b) (nI n) (nI c) st pr rf lt li lk lv so m) (nI r) sl it (nI b) (nI n) (nI c) st pr rf lt li lk lv so q a (nI (i + 1)))
      (fun i a => (∀ x, gs_m s x → gs_m a x) ∧ (∀ x, gs_m a x → gs_L (gs_m w) (fun t s => E s t) x) ∧ (∀ t x, 1 ≤ t → t ≤ i → gs_m s t → E x t → gs_m a x)) b 0 s (Nat.zero_le b) ?_ ?_ ?_
    · exact ⟨fun _ h => h, hs.2.1, fun t x h1 h2 => absurd h2 (by omega)⟩
    · intro q a ha
      exact pk_lt b (b + 1) (fun _ => nm_r (nI_1 r) (k a (gs_satS hL hs ha.1 ha.2.1 (fun t x ht hx => ha.2.2 t x (hEb x t hx).2.1 (hEb x t hx).2.2 ht hx)))) (fun h => absurd h (by omega))
    · intro q i a hi ha k'
      refine pk_lt b (i + 1) (fun h => absurd h (by omega)) (fun _ => ?_)
      refine xo_has (by omega) (by omega) (fun h => ?_) (fun h => ?_)
      · refine br_f (by decide) ⟨vp_in_nI (by omega) (by omega), nm_r (e' := a ||| pr (i + 1)) (by rw [nI_clamp (by omega)]) (nm_r (nI_1 (i + 1)) (k' _ ⟨?_, ?_, ?_⟩))⟩
        · exact fun x hx => (gs_m_or _ _ x).mpr (Or.inl (ha.1 x hx))
        · intro x hx
          cases (gs_m_or _ _ x).mp hx with
          | inl z => exact ha.2.1 x z
          | inr z => exact gs_L_s (ha.2.1 _ h) ((hE (i + 1) (by omega) (by omega) x).mp z)
        · intro t x h1 h2 ht hx
          by_cases e : t = i + 1
          · subst e
            exact (gs_m_or _ _ x).mpr (Or.inr ((hE _ (by omega) (by omega) x).mpr hx))
          · exact (gs_m_or _ _ x).mpr (Or.inl (ha.2.2 t x h1 (by omega) ht hx))
      · refine br_t rfl (nm_r (nI_1 (i + 1)) (k' a ⟨ha.1, ha.2.1, ?_⟩))
        intro t x h1 h2 ht hx
        by_cases e : t = i + 1
        · subst e
          exact absurd (ha.1 _ ht) h
        · exact ha.2.2 t x h1 (by omega) ht hx
/-- who is aborted with t -/
def gs_Dm (b : Nat) (F : Nat → Nat → Prop) (st : Nat → Int32) (t : Nat) : Nat → Prop := gs_L (fun s => s = t) (fun w u => (1 ≤ u ∧ u ≤ b) ∧ gs_un (st u) ∧ F u w)
theorem gs_Dm_in {b : Nat} {F : Nat → Nat → Prop} {st : Nat → Int32} {t : Nat} (h1 : 1 ≤ t) (h2 : t ≤ b) (s : Nat) (h : gs_Dm b F st t s) : 1 ≤ s ∧ s ≤ b :=
  gs_L_i (A := fun s => 1 ≤ s ∧ s ≤ b) (fun c e => by rw [e]; exact ⟨h1, h2⟩) (fun _ _ _ hr => hr.1) h
theorem xo_withRd {post : Int64 → Prop} {F : Nat → Nat → Prop} {t : Nat} (hb : b ≤ 64) (hF : gs_RF rf F) (h1 : 1 ≤ t) (h2 : t ≤ b)
    (hp : ∀ w', (∀ s, gs_m w' s ↔ gs_Dm b F st t s) → post w') : wpX_withReaders post (sl, it, nI b, nI n, nI c, st, pr, rf, lt, li, lk, lv, so) (nI t) := by
  have hL := gs_Dm_in (F := F) (st := st) h1 h2
  unfold gs_Dm at hL
  unfold wpX_withReaders
  dsimp only
  refine xo_bit h1 (by omega) ?_
  refine pk_loop (σ := Int64) (fun m r s => wX_withReaders_8 post sl it (nI b) (nI n) (nI c) st pr rf lt li lk lv so m s (nI r)) (fun r s => gs_Sat (fun s => s = t) (fun w u => (1 ≤ u ∧ u ≤ b) ∧ gs_un (st u) ∧ F u w) b r (gs_m s)) b 0 (gs_bit t) (Nat.zero_le b) ?_ ?_ ?_
  · exact ⟨fun s e => (gs_m_bit h1 (by omega) s).mpr e, fun s h => gs_L_b ((gs_m_bit h1 (by omega) s).mp h), Or.inr (Nat.zero_le _)⟩
  · intro m s hs
    exact pk_le b b (fun _ => hp s (gs_satE hL hs)) (fun h => absurd h (by omega))
  · intro m r s hr hs k
    refine pk_le b r (fun h => absurd h (by omega)) (fun _ => ?_)
    refine pk_loop (σ := Int64) (fun q i a => wX_withReaders_20 post (wX_withReaders_8 post sl it (nI b) (nI n) (nI c) st pr rf lt li lk lv so m) (nI r) sl it (nI b) (nI n) (nI c) st pr rf lt li lk lv so q a (nI (i + 1)))
      (fun i a => (∀ x, gs_m s x → gs_m a x) ∧ (∀ x, gs_m a x → gs_L (fun s => s = t) (fun w u => (1 ≤ u ∧ u ≤ b) ∧ gs_un (st u) ∧ F u w) x) ∧ (∀ w u, 1 ≤ u → u ≤ i → gs_m s w → gs_un (st u) → F u w → gs_m a u)) b 0 s (Nat.zero_le b) ?_ ?_ ?_
    · exact ⟨fun _ h => h, hs.2.1, fun w u a1 a2 => absurd a2 (by omega)⟩
    · intro q a ha
      exact pk_lt b (b + 1) (fun _ => nm_r (nI_1 r) (k a (gs_satS hL hs ha.1 ha.2.1 (fun w u hw hu => ha.2.2 w u hu.1.1 hu.1.2 hw hu.2.1 hu.2.2)))) (fun h => absurd h (by omega))
    · intro q i a hi ha k'
      refine pk_lt b (i + 1) (fun h => absurd h (by omega)) (fun _ => ?_)
      have hcl : (nI (i + 1)).toNatClampNeg = i + 1 := nI_clamp (by omega)
      refine xo_isUnf (by omega) (fun h => ?_) (fun h => ?_)
      · refine br_f (by decide) ⟨vp_in_nI (by omega) (by omega), ?_⟩
        rw [hcl]
        refine br_c (fun z => ?_) (fun z => ?_)
        · rw [gs_and0] at z
          refine nm_r (nI_1 (i + 1)) (k' a ⟨ha.1, ha.2.1, ?_⟩)
          intro w u u1 u2 hw hu hf
          by_cases e : u = i + 1
          · subst e
            exact absurd (ha.1 w hw) (z w ((hF _ (by omega) (by omega) w).mpr hf))
          · exact ha.2.2 w u u1 (by omega) hw hu hf
        · rw [gs_and0] at z
          have hx : ∃ w, gs_m (rf (i + 1)) w ∧ gs_m a w := Classical.byContradiction fun y => z (fun w w1 w2 => y ⟨w, w1, w2⟩)
          obtain ⟨w, w1, w2⟩ := hx
          refine xo_bit (by omega) (by omega) (nm_e (nm_r (nI_1 (i + 1)) (k' _ ⟨?_, ?_, ?_⟩)))
          · exact fun x hx => (gs_m_or _ _ x).mpr (Or.inl (ha.1 x hx))
          · intro x hx
            cases (gs_m_or _ _ x).mp hx with
            | inl y => exact ha.2.1 x y
            | inr y =>
              rw [(gs_m_bit (by omega) (by omega) x).mp y]
              exact gs_L_s (ha.2.1 w w2) ⟨⟨by omega, by omega⟩, h, (hF _ (by omega) (by omega) w).mp w1⟩
          · intro v u u1 u2 hv hu hf
            by_cases e : u = i + 1
            · exact (gs_m_or _ _ u).mpr (Or.inr ((gs_m_bit (by omega) (by omega) u).mpr e))
            · exact (gs_m_or _ _ u).mpr (Or.inl (ha.2.2 v u u1 (by omega) hv hu hf))
      · refine br_t rfl (nm_r (nI_1 (i + 1)) (k' a ⟨ha.1, ha.2.1, ?_⟩))
        intro w u u1 u2 hw hu hf
        by_cases e : u = i + 1
        · subst e
          exact absurd hu h
        · exact ha.2.2 w u u1 (by omega) hw hu hf
end
end
section
/-! X: settling, aborting, committing -/
section
variable {sl it : Int32} {b n c : Nat} {st : Nat → Int32} {pr rf : Nat → Int64} {lt li lk lv so : Nat → Int32}
theorem xo_firstSet {post : Int32 → Prop} {E : Nat → Nat → Prop} (hb : b ≤ 64) (hE : gs_PE pr E) (hEb : ∀ s t, E s t → (1 ≤ s ∧ s ≤ b) ∧ (1 ≤ t ∧ t ≤ b)) (hp : post (nI (gs_nx b E st))) : wpX_firstSettleable post (sl, it, nI b, nI n, nI c, st, pr, rf, lt, li, lk, lv, so) := by
  unfold wpX_firstSettleable
  dsimp only
  refine xo_openSet hb (fun w hw => ?_)
  refine pk_loop (σ := Unit) (fun m i _ => wX_firstSettleable_7 post w sl it (nI b) (nI n) (nI c) st pr rf lt li lk lv so m (nI (i + 1))) (fun i _ => gs_fst (gs_Rd E st) (b - i) (i + 1) = gs_nx b E st) b 0 () (Nat.zero_le b) rfl ?_ ?_
  · intro m _ hs
    refine pk_lt b (b + 1) (fun _ => ?_) (fun h => absurd h (by omega))
    rw [Nat.sub_self] at hs
    rw [← hs] at hp
    exact hp
  · intro m i _ hi hs k
    refine pk_lt b (i + 1) (fun h => absurd h (by omega)) (fun _ => ?_)
    have hcl : (nI (i + 1)).toNatClampNeg = i + 1 := nI_clamp (by omega)
    have hin : vp_in (nI (i + 1)) 65 := vp_in_nI (by omega) (by omega)
    rw [show b - i = (b - (i + 1)) + 1 by omega] at hs
    refine ⟨hin, ?_⟩
    rw [hcl]
    refine br_c (fun h3 => ⟨hin, ?_⟩) (fun h3 => ?_)
    · refine br_c (fun z => ?_) (fun z => ?_)
      · rw [gs_and0] at z
        have hr : gs_Rd E st (i + 1) := ⟨h3, fun s hs ho => z s ((hE _ (by omega) (by omega) s).mpr hs) ((hw s).mpr ⟨(hEb s _ hs).1, ho⟩)⟩
        rw [gs_fst_t hr] at hs
        rw [← hs] at hp
        exact hp
      · rw [gs_and0] at z
        have hr : ¬ gs_Rd E st (i + 1) := fun r => z (fun s s1 s2 => r.2 s ((hE _ (by omega) (by omega) s).mp s1) ((hw s).mp s2).2)
        rw [gs_fst_f hr] at hs
        exact nm_r (nI_1 (i + 1)) (k () hs)
    · have hr : ¬ gs_Rd E st (i + 1) := fun r => h3 r.1
      rw [gs_fst_f hr] at hs
      exact nm_r (nI_1 (i + 1)) (k () hs)
end
section
variable {sl it : Int32} {b n : Nat} {pr rf : Nat → Int64} {lt li lk lv : Nat → Int32}
theorem xo_settleW {post : St2 → Prop} {E : Nat → Nat → Prop} (hb : b ≤ 64) (hE : gs_PE pr E) (hEb : ∀ s t, E s t → (1 ≤ s ∧ s ≤ b) ∧ (1 ≤ t ∧ t ≤ b)) (d : Nat) : ∀ (c : Nat) (st so : Nat → Int32), c + d = 64 →
    post (sl, it, nI b, nI n, nI ((gs_set b E d st so c).2.2), (gs_set b E d st so c).1, pr, rf, lt, li, lk, lv, (gs_set b E d st so c).2.1) → wX_settle_5 post sl it (nI b) (nI n) (d + 1) (nI c) (nI c) st pr rf lt li lk lv so := by
  induction d with
  | zero =>
    intro c st so hc hp
    exact pk_le 64 c (fun _ => hp) (fun h => absurd h (by omega))
  | succ d ih =>
    intro c st so hc hp
    refine pk_le 64 c (fun h => absurd h (by omega)) (fun _ => ?_)
    refine xo_firstSet hb hE hEb ?_
    by_cases e : gs_nx b E st = 0
    · rw [gs_set_0 e] at hp
      rw [e]
      exact br_t rfl hp
    · have h := (gs_nx_or b E st).resolve_left e
      rw [gs_set_s e] at hp
      have hcl : (nI (gs_nx b E st)).toNatClampNeg = gs_nx b E st := nI_clamp (by omega)
      have hcc : (nI c).toNatClampNeg = c := nI_clamp (by omega)
      refine br_f (nI_ne0 (by omega) (by omega)) ⟨vp_in_nI (by omega) (by omega), nm_r (e' := upd st (gs_nx b E st) 4) (by rw [hcl]) ⟨vp_in_nI (by omega) (by omega), nm_r (e' := upd so c (nI (gs_nx b E st))) (by rw [hcc]) (nm_r (nI_1 c) (nm_r (nI_1 c) ?_))⟩⟩
      exact ih (c + 1) _ _ (by omega) hp
theorem xo_settle {post : St2 → Prop} {E : Nat → Nat → Prop} {c : Nat} {st so : Nat → Int32} (hb : b ≤ 64) (hc : c ≤ 64) (hE : gs_PE pr E) (hEb : ∀ s t, E s t → (1 ≤ s ∧ s ≤ b) ∧ (1 ≤ t ∧ t ≤ b))
    (hp : post (sl, it, nI b, nI n, nI ((gs_set b E (64 - c) st so c).2.2), (gs_set b E (64 - c) st so c).1, pr, rf, lt, li, lk, lv, (gs_set b E (64 - c) st so c).2.1)) : wpX_settle post (sl, it, nI b, nI n, nI c, st, pr, rf, lt, li, lk, lv, so) :=
  ⟨64 - c + 1, xo_settleW hb hE hEb (64 - c) c st so (by omega) hp⟩
end
section
variable {sl it : Int32} {b n c : Nat} {st : Nat → Int32} {pr rf : Nat → Int64} {lt li lk lv so : Nat → Int32}
/-- the graph behind an abort of D -/
def gs_EA (E : Nat → Nat → Prop) (D : Nat → Prop) (s t : Nat) : Prop := E s t ∧ ¬ D s ∧ ¬ D t
theorem gs_PE_A {E : Nat → Nat → Prop} {D : Nat → Prop} {p : Nat → Int64} (hE : gs_PE pr E) (hEb : ∀ s t, E s t → (1 ≤ s ∧ s ≤ b) ∧ (1 ≤ t ∧ t ≤ b)) (hp : gs_prA D pr b p) : gs_PE p (gs_EA E D) := by
  intro t h1 h2 s
  by_cases c : t ≤ b
  · rw [hp.2 t h1 c s, hE t h1 h2 s]
    exact Iff.rfl
  · rw [hp.1 t (Or.inr (by omega)), hE t h1 h2 s]
    exact ⟨fun h => absurd (hEb s t h).2.2 c, fun h => h.1⟩
theorem xo_abort {post : Int32 → St2 → Prop} {E F : Nat → Nat → Prop} {t : Nat} (hb : b ≤ 64) (hc : c ≤ 64) (hE : gs_PE pr E) (hEb : ∀ s t, E s t → (1 ≤ s ∧ s ≤ b) ∧ (1 ≤ t ∧ t ≤ b)) (hF : gs_RF rf F) (h1 : 1 ≤ t) (h2 : t ≤ b)
    {D : Nat → Prop} (hD : D = gs_Dm b F st t) {E' : Nat → Nat → Prop} (hE' : E' = gs_EA E D) {g : (Nat → Int32) × (Nat → Int32) × Nat} (hg : g = gs_set b E' (64 - c) (gs_abs D st b) so c)
    (hp : ∀ p, gs_PE p E' → post (nI (gs_cnt D b)) (sl, it, nI b, nI n, nI (g.2.2), g.1, p, rf, lt, li, lk, lv, g.2.1)) : wpX_abortWithReaders post (sl, it, nI b, nI n, nI c, st, pr, rf, lt, li, lk, lv, so) (nI t) := by
  subst hg
  unfold wpX_abortWithReaders
  dsimp only
  refine xo_withRd hb hF h1 h2 (fun w hw => ?_)
  rw [← hD] at hw
  refine pk_loop (σ := Nat × (Nat → Int32) × (Nat → Int64)) (fun m i s => wX_abortWithReaders_12 post w sl it (nI b) (nI n) (nI c) m (nI s.1) (nI (i + 1)) s.2.1 s.2.2 rf lt li lk lv so)
    (fun i s => s.1 = gs_cnt D i ∧ s.2.1 = gs_abs D st i ∧ gs_prA D pr i s.2.2) b 0 (0, st, pr) (Nat.zero_le b) ⟨rfl, (gs_abs_0 D st).symm, gs_prA_0 D pr⟩ ?_ ?_
  · rintro m ⟨k, s', p⟩ ⟨e1, e2, e3⟩
    dsimp only at e1 e2 e3
    subst e1 e2
    have hpE := gs_PE_A hE hEb e3
    rw [← hE'] at hpE
    refine pk_lt b (b + 1) (fun _ => ?_) (fun h => absurd h (by omega))
    exact xo_settle hb hc hpE (fun s t h => by rw [hE'] at h; exact hEb s t h.1) (hp p hpE)
  · rintro m i ⟨k, s', p⟩ hi ⟨e1, e2, e3⟩ kk
    dsimp only at e1 e2 e3 kk ⊢
    subst e1 e2
    have hcl : (nI (i + 1)).toNatClampNeg = i + 1 := nI_clamp (by omega)
    have hin : vp_in (nI (i + 1)) 65 := vp_in_nI (by omega) (by omega)
    have hpi : p (i + 1) = pr (i + 1) := e3.1 (i + 1) (Or.inr (by omega))
    refine pk_lt b (i + 1) (fun h => absurd h (by omega)) (fun _ => ?_)
    refine ⟨hin, hin, nm_r (e' := vp_updL p (i + 1) (pr (i + 1) &&& (w ^^^ (-1)))) (by rw [hcl, hpi]) ?_⟩
    refine xo_has (by omega) (by omega) (fun h => ?_) (fun h => ?_)
    · have hd : D (i + 1) := (hw _).mp h
      refine br_f (by decide) ⟨hin, nm_r (e' := vp_updL p (i + 1) 0) ?_ ⟨hin, nm_r (e' := gs_abs D st (i + 1)) (by rw [hcl]; exact gs_abs_s hd) (nm_r (nI_1 _) (nm_r (nI_1 (i + 1)) (kk (gs_cnt D i + 1, gs_abs D st (i + 1), vp_updL p (i + 1) 0) ⟨(gs_cnt_t hd).symm, rfl, ?_⟩)))⟩⟩
      · rw [hcl]
        funext j
        by_cases e : j = i + 1
        · rw [e, pk_uLs, pk_uLs]
        · rw [pk_uLn e, pk_uLn e, pk_uLn e]
      · exact gs_prA_s e3 (fun s => ⟨fun z => absurd z (gs_m_0 s), fun z => absurd hd z.2.2⟩)
    · have hd : ¬ D (i + 1) := fun z => h ((hw _).mpr z)
      refine br_t rfl (nm_r (nI_1 (i + 1)) (kk (gs_cnt D i, gs_abs D st i, vp_updL p (i + 1) (pr (i + 1) &&& (w ^^^ (-1)))) ⟨(gs_cnt_f hd).symm, gs_abs_n hd, ?_⟩))
      refine gs_prA_s e3 (fun s => ?_)
      rw [gs_m_not, hw s]
      exact ⟨fun z => ⟨z.1, z.2, hd⟩, fun z => ⟨z.1, z.2.1⟩⟩
theorem xo_mustWait {post : Int32 → Prop} {F : Nat → Nat → Prop} {t : Nat} (hb : b ≤ 64) (hF : gs_RF rf F) (hFb : ∀ t w, F t w → 1 ≤ w ∧ w ≤ b) (h1 : 1 ≤ t) (h2 : t ≤ b)
    (p1 : (∃ w, F t w ∧ gs_un (st w)) → post 1) (p0 : (∀ w, F t w → ¬ gs_un (st w)) → post 0) : wpX_mustWait post (sl, it, nI b, nI n, nI c, st, pr, rf, lt, li, lk, lv, so) (nI t) := by
  unfold wpX_mustWait
  dsimp only
  refine ⟨vp_in_nI (by omega) (by omega), xo_unfSet hb (fun w hw => ?_)⟩
  rw [nI_clamp (show t < 2 ^ 31 by omega)]
  refine br_c (fun z => p0 ?_) (fun z => p1 ?_)
  · rw [gs_and0] at z
    exact fun v hv hu => z v ((hF t h1 (by omega) v).mpr hv) ((hw v).mpr ⟨hFb t v hv, hu⟩)
  · rw [gs_and0] at z
    apply Classical.byContradiction
    intro y
    exact z (fun v v1 v2 => y ⟨v, (hF t h1 (by omega) v).mp v1, ((hw v).mp v2).2⟩)
theorem xo_firstReady {post : Int32 → Prop} {F : Nat → Nat → Prop} (hb : b ≤ 64) (hF : gs_RF rf F) (hFb : ∀ t w, F t w → 1 ≤ w ∧ w ≤ b) (hp : post (nI (gs_fst (gs_Go F st) b 1))) : wpX_firstReadyWaiter post (sl, it, nI b, nI n, nI c, st, pr, rf, lt, li, lk, lv, so) := by
  unfold wpX_firstReadyWaiter
  dsimp only
  refine pk_loop (σ := Unit) (fun m i _ => wX_firstReadyWaiter_2 post sl it (nI b) (nI n) (nI c) st pr rf lt li lk lv so m (nI (i + 1))) (fun i _ => gs_fst (gs_Go F st) (b - i) (i + 1) = gs_fst (gs_Go F st) b 1) b 0 () (Nat.zero_le b) rfl ?_ ?_
  · intro m _ hs
    refine pk_lt b (b + 1) (fun _ => ?_) (fun h => absurd h (by omega))
    rw [Nat.sub_self] at hs
    rw [← hs] at hp
    exact hp
  · intro m i _ hi hs k
    refine pk_lt b (i + 1) (fun h => absurd h (by omega)) (fun _ => ?_)
    have hcl : (nI (i + 1)).toNatClampNeg = i + 1 := nI_clamp (by omega)
    have hin : vp_in (nI (i + 1)) 65 := vp_in_nI (by omega) (by omega)
    rw [show b - i = (b - (i + 1)) + 1 by omega] at hs
    refine ⟨hin, ?_⟩
    rw [hcl]
    refine br_c (fun h2 => ?_) (fun h2 => ?_)
    · refine xo_mustWait hb hF hFb (by omega) (by omega) (fun z => ?_) (fun z => ?_)
      · obtain ⟨w, w1, w2⟩ := z
        have hr : ¬ gs_Go F st (i + 1) := fun r => r.2 w w1 w2
        rw [gs_fst_f hr] at hs
        exact br_f (by decide) (nm_r (nI_1 (i + 1)) (k () hs))
      · have hr : gs_Go F st (i + 1) := ⟨h2, z⟩
        rw [gs_fst_t hr] at hs
        rw [← hs] at hp
        exact br_t rfl hp
    · have hr : ¬ gs_Go F st (i + 1) := fun r => h2 r.1
      rw [gs_fst_f hr] at hs
      exact nm_r (nI_1 (i + 1)) (k () hs)
theorem xo_commitW {post : Int32 → St2 → Prop} {F : Nat → Nat → Prop} (hb : b ≤ 64) (hF : gs_RF rf F) (hFb : ∀ t w, F t w → 1 ≤ w ∧ w ≤ b)
    (hp : ∀ k s, gs_Wy b F st k s → (∀ t, 1 ≤ t → t ≤ b → ¬ gs_Go F s t) → post (nI k) (sl, it, nI b, nI n, nI c, s, pr, rf, lt, li, lk, lv, so)) : wpX_commitWaiters post (sl, it, nI b, nI n, nI c, st, pr, rf, lt, li, lk, lv, so) := by
  unfold wpX_commitWaiters
  dsimp only
  refine pk_loop (σ := Nat → Int32) (fun m r s => wX_commitWaiters_4 post sl it (nI b) (nI n) (nI c) m (nI r) (nI r) s pr rf lt li lk lv so) (fun r s => gs_Wy b F st r s) b 0 st (Nat.zero_le b) (gs_wy0 b F st) ?_ ?_
  · intro m s hs
    refine pk_le b b (fun _ => hp b s hs ?_) (fun h => absurd h (by omega))
    intro t h1 h2 hg
    have e : gs_cnt (fun j => s j = 2) b = 0 := by
      have := hs.2
      have := gs_cnt_le (fun j => st j = 2) b
      omega
    exact gs_cnt_none e t h1 h2 hg.1
  · intro m r s hr hs k
    refine pk_le b r (fun h => absurd h (by omega)) (fun _ => ?_)
    refine xo_firstReady hb hF hFb ?_
    cases gs_fst_or (gs_Go F s) b 1 (Nat.le_refl 1) with
    | inl h =>
      rw [h.1]
      exact br_t rfl (hp r s hs (fun t h1 h2 => h.2 t h1 (by omega)))
    | inr h =>
      have hcl : (nI (gs_fst (gs_Go F s) b 1)).toNatClampNeg = gs_fst (gs_Go F s) b 1 := nI_clamp (by omega)
      exact br_f (nI_ne0 (by omega) (by omega)) ⟨vp_in_nI (by omega) (by omega), nm_r (e' := upd s (gs_fst (gs_Go F s) b 1) 3) (by rw [hcl]) (nm_r (nI_1 r) (nm_r (nI_1 r) (k _ (gs_wyS hs h.1 (by omega) h.2.2))))⟩
theorem xo_commit {post : Int32 → St2 → Prop} {E F : Nat → Nat → Prop} {t : Nat} (hb : b ≤ 64) (hc : c ≤ 64) (hE : gs_PE pr E) (hEb : ∀ s t, E s t → (1 ≤ s ∧ s ≤ b) ∧ (1 ≤ t ∧ t ≤ b)) (hF : gs_RF rf F) (hFb : ∀ t w, F t w → 1 ≤ w ∧ w ≤ b) (h1 : 1 ≤ t) (h2 : t ≤ b)
    (pN : ¬ st t = 1 → post (-2) (sl, it, nI b, nI n, nI c, st, pr, rf, lt, li, lk, lv, so)) (pW : st t = 1 → (∃ w, F t w ∧ gs_un (st w)) → post 0 (sl, it, nI b, nI n, nI c, upd st t 2, pr, rf, lt, li, lk, lv, so))
    (pC : st t = 1 → (∀ w, F t w → ¬ gs_un (st w)) → ∀ k s, gs_Wy b F (upd st t 3) k s → (∀ t, 1 ≤ t → t ≤ b → ¬ gs_Go F s t) →
      post (nI (1 + k)) (sl, it, nI b, nI n, nI ((gs_set b E (64 - c) s so c).2.2), (gs_set b E (64 - c) s so c).1, pr, rf, lt, li, lk, lv, (gs_set b E (64 - c) s so c).2.1)) : wpX_commit post (sl, it, nI b, nI n, nI c, st, pr, rf, lt, li, lk, lv, so) (nI t) := by
  have hcl : (nI t).toNatClampNeg = t := nI_clamp (by omega)
  have hin : vp_in (nI t) 65 := vp_in_nI (by omega) (by omega)
  unfold wpX_commit
  dsimp only
  refine xo_begun1 h1 h2 hb (br_f (by decide) ⟨hin, ?_⟩)
  rw [hcl]
  refine br_c (fun e => ?_) pN
  refine xo_mustWait hb hF hFb h1 h2 (fun z => ?_) (fun z => ?_)
  · exact br_f (by decide) ⟨hin, nm_e (pW e z)⟩
  · refine br_t rfl ⟨hin, nm_e ?_⟩
    refine xo_commitW hb hF hFb (fun k s hk hs => ?_)
    refine nm_r (nI_add 1 k) ?_
    exact xo_settle hb hc hE hEb (pC e z k s hk hs)
end
end
section
/-! X: the log -/
/-- entry i writes x and stands -/
def gs_Wr (T : Nat → Nat) (X K st : Nat → Int32) (x : Int32) (i : Nat) : Prop := (X i = x ∧ ¬ K i &&& 2 = 0) ∧ ¬ st (T i) = 5
/-- entry i writes x and is settled -/
def gs_Ws (T : Nat → Nat) (X K st : Nat → Int32) (x : Int32) (i : Nat) : Prop := (X i = x ∧ ¬ K i &&& 2 = 0) ∧ st (T i) = 4
/-- entry i is t's and writes x -/
def gs_Wt (T : Nat → Nat) (X K : Nat → Int32) (t : Nat) (x : Int32) (i : Nat) : Prop := T i = t ∧ X i = x ∧ ¬ K i &&& 2 = 0
def gs_val (d : Int32) (lv : Nat → Int32) : Nat → Int32
  | 0 => d
  | i + 1 => lv i
def gs_wrt (T : Nat → Nat) : Nat → Nat
  | 0 => 0
  | i + 1 => T i
theorem gs_dn (i : Nat) : nI i + (-1) = nI i - 1 := (Int32.sub_eq_add_neg (nI i) 1).symm
theorem gs_dn0 : nI 0 - 1 < 0 := by decide
section
variable {sl it : Int32} {b n c : Nat} {st : Nat → Int32} {pr rf : Nat → Int64} {lt li lk lv so : Nat → Int32} {T : Nat → Nat} {X K : Nat → Int32}
theorem xl_writesItem {post : Int32 → Prop} {i : Nat} {x : Int32} (hL : gs_Lg n b T X K lt li lk) (hn : n ≤ 128) (hi : i < n) (p1 : X i = x ∧ ¬ K i &&& 2 = 0 → post 1) (p0 : ¬ (X i = x ∧ ¬ K i &&& 2 = 0) → post 0) : wpX_writesItem post (sl, it, nI b, nI n, nI c, st, pr, rf, lt, li, lk, lv, so) (nI i) x := by
  have hin : vp_in (nI i) 128 := vp_in_nI (by omega) (by omega)
  have hcl : (nI i).toNatClampNeg = i := nI_clamp (by omega)
  unfold wpX_writesItem
  dsimp only
  rw [hcl, (hL i hi).2.2.2.1, (hL i hi).2.2.2.2]
  exact ⟨hin, br_c (fun a => ⟨hin, br_c (fun d => p0 (fun z => z.2 d)) (fun d => p1 ⟨a, d⟩)⟩) (fun a => p0 (fun z => a z.1))⟩
theorem xl_isStanding {post : Int32 → Prop} {i : Nat} (hL : gs_Lg n b T X K lt li lk) (hn : n ≤ 128) (hb : b ≤ 64) (hi : i < n) (p1 : ¬ st (T i) = 5 → post 1) (p0 : st (T i) = 5 → post 0) : wpX_isStanding post (sl, it, nI b, nI n, nI c, st, pr, rf, lt, li, lk, lv, so) (nI i) := by
  have hin : vp_in (nI i) 128 := vp_in_nI (by omega) (by omega)
  have hcl : (nI i).toNatClampNeg = i := nI_clamp (by omega)
  have h := hL i hi
  have hcl' : (nI (T i)).toNatClampNeg = T i := nI_clamp (by omega)
  unfold wpX_isStanding
  dsimp only
  rw [hcl, h.1, hcl']
  exact ⟨hin, vp_in_nI (by omega) (by omega), br_c p0 p1⟩
theorem xl_lastWrite {post : Int32 → Prop} {x : Int32} (hL : gs_Lg n b T X K lt li lk) (hn : n ≤ 128) (hb : b ≤ 64) (p0 : gs_lst (gs_Wr T X K st x) n = 0 → post (-1)) (p1 : ∀ i, gs_lst (gs_Wr T X K st x) n = i + 1 → post (nI i)) : wpX_lastWrite post (sl, it, nI b, nI n, nI c, st, pr, rf, lt, li, lk, lv, so) x := by
  unfold wpX_lastWrite
  dsimp only
  refine nm_e ⟨n + 1, ?_⟩
  refine pk_loopD (σ := Unit) (fun m i _ => wX_lastWrite_7 post x sl it (nI b) (nI n) (nI c) st pr rf lt li lk lv so m (nI i - 1)) (fun i _ => i ≤ n ∧ gs_lst (gs_Wr T X K st x) i = gs_lst (gs_Wr T X K st x) n) ?_ ?_ n () ⟨Nat.le_refl n, rfl⟩
  · intro m _ h
    exact br_t gs_dn0 (p0 h.2.symm)
  · intro m i _ h k
    rw [nI_pred]
    refine br_f (nI_pos (by omega)) ?_
    refine xl_writesItem hL hn (by omega) (fun a => ?_) (fun a => ?_)
    · refine br_f (by decide) (xl_isStanding hL hn hb (by omega) (fun d => ?_) (fun d => ?_))
      · rw [gs_lst_t ⟨a, d⟩] at h
        exact br_f (by decide) (p1 i h.2.symm)
      · rw [gs_lst_f (fun z => z.2 d)] at h
        exact br_t rfl (nm_r (gs_dn i) (k () ⟨by omega, h.2⟩))
    · rw [gs_lst_f (fun z => a z.1)] at h
      exact br_t rfl (nm_r (gs_dn i) (k () ⟨by omega, h.2⟩))
theorem xl_cur {post : Int32 → Prop} {x : Int32} (hL : gs_Lg n b T X K lt li lk) (hn : n ≤ 128) (hb : b ≤ 64) (hp : post (gs_val 0 lv (gs_lst (gs_Wr T X K st x) n))) : wpX_currentValue post (sl, it, nI b, nI n, nI c, st, pr, rf, lt, li, lk, lv, so) x := by
  unfold wpX_currentValue
  dsimp only
  refine xl_lastWrite hL hn hb (fun e => ?_) (fun i e => ?_)
  · rw [e] at hp
    exact br_f (by decide) hp
  · have hi := (gs_lst_in e).1
    rw [e] at hp
    refine br_t (nI_pos' (by omega)) ⟨vp_in_nI (by omega) (by omega), ?_⟩
    rw [nI_clamp (show i < 2 ^ 31 by omega)]
    exact hp
theorem xl_lastWriter {post : Int32 → Prop} {x : Int32} (hL : gs_Lg n b T X K lt li lk) (hn : n ≤ 128) (hb : b ≤ 64) (hp : post (nI (gs_wrt T (gs_lst (gs_Wr T X K st x) n)))) : wpX_lastWriter post (sl, it, nI b, nI n, nI c, st, pr, rf, lt, li, lk, lv, so) x := by
  unfold wpX_lastWriter
  dsimp only
  refine xl_lastWrite hL hn hb (fun e => ?_) (fun i e => ?_)
  · rw [e] at hp
    exact br_f (by decide) hp
  · have hi := (gs_lst_in e).1
    rw [e] at hp
    refine br_t (nI_pos' (by omega)) ⟨vp_in_nI (by omega) (by omega), ?_⟩
    rw [nI_clamp (show i < 2 ^ 31 by omega), (hL i hi).1]
    exact hp
theorem gs_wrt_in {P : Nat → Prop} (hL : gs_Lg n b T X K lt li lk) : gs_wrt T (gs_lst P n) = 0 ∨ (1 ≤ gs_wrt T (gs_lst P n) ∧ gs_wrt T (gs_lst P n) ≤ b) := by
  cases e : gs_lst P n with
  | zero => exact Or.inl rfl
  | succ i =>
    have hi := hL i (gs_lst_in e).1
    exact Or.inr ⟨hi.2.1, hi.2.2.1⟩
theorem xl_note {post : St2 → Prop} {x : Int32} {t w : Nat} (hL : gs_Lg n b T X K lt li lk) (hn : n ≤ 128) (hb : b ≤ 64) (h2 : t ≤ b) (hw : w = gs_wrt T (gs_lst (gs_Wr T X K st x) n))
    (pN : ¬ (w ≠ 0 ∧ w ≠ t ∧ gs_un (st w)) → post (sl, it, nI b, nI n, nI c, st, pr, rf, lt, li, lk, lv, so)) (pY : w ≠ 0 → w ≠ t → gs_un (st w) → post (sl, it, nI b, nI n, nI c, st, pr, vp_updL rf t (rf t ||| gs_bit w), lt, li, lk, lv, so)) : wpX_noteReading post (sl, it, nI b, nI n, nI c, st, pr, rf, lt, li, lk, lv, so) (nI t) x := by
  have hwb := gs_wrt_in (P := gs_Wr T X K st x) hL
  rw [← hw] at hwb
  have hin : vp_in (nI t) 65 := vp_in_nI (by omega) (by omega)
  have hcl : (nI t).toNatClampNeg = t := nI_clamp (by omega)
  unfold wpX_noteReading
  dsimp only
  refine xl_lastWriter hL hn hb ?_
  rw [← hw]
  refine pk_eq w 0 (fun e => pN (fun z => z.1 e)) (fun e => ?_)
  refine pk_eq w t (fun e' => pN (fun z => z.2.1 e')) (fun e' => ?_)
  refine xo_isUnf (by omega) (fun u => ?_) (fun u => ?_)
  · refine br_f (by decide) ⟨hin, xo_bit (by omega) (by omega) ⟨hin, nm_r (e' := vp_updL rf t (rf t ||| gs_bit w)) (by rw [hcl]) (pY e e' u)⟩⟩
  · exact br_t rfl (pN (fun z => u z.2.2))
theorem xl_enter {post : St2 → Prop} {t : Nat} {x k v : Int32} {w : Int64} (hn : n < 128) (hb : b ≤ 64) (h2 : t ≤ b)
    (hp : post (sl, it, nI b, nI (n + 1), nI c, st, vp_updL pr t (pr t ||| w), rf, upd lt n (nI t), upd li n x, upd lk n k, upd lv n v, so)) : wpX_enter post (sl, it, nI b, nI n, nI c, st, pr, rf, lt, li, lk, lv, so) (nI t) x k v w := by
  have hin : vp_in (nI n) 128 := vp_in_nI (by omega) (by omega)
  have hit : vp_in (nI t) 65 := vp_in_nI (by omega) (by omega)
  have hcl : (nI t).toNatClampNeg = t := nI_clamp (by omega)
  have hcn : (nI n).toNatClampNeg = n := nI_clamp (by omega)
  unfold wpX_enter
  dsimp only
  rw [hcl, hcn]
  exact ⟨hin, nm_e ⟨hin, nm_e ⟨hin, nm_e ⟨hin, nm_e (nm_r (nI_1 n) ⟨hit, hit, nm_e hp⟩)⟩⟩⟩⟩
theorem gs_Cf_s {st : Nat → Int32} {i t : Nat} {x k : Int32} (z : Nat) : gs_Cf (i + 1) T X K st t x k z ↔ gs_Cf i T X K st t x k z ∨ (z = T i ∧ T i ≠ t ∧ X i = x ∧ ¬ ((K i ||| k) &&& 2 = 0) ∧ ¬ st (T i) = 5) := by
  constructor
  · rintro ⟨j, hj, rfl, h⟩
    by_cases e : j = i
    · subst e
      exact Or.inr ⟨rfl, h⟩
    · exact Or.inl ⟨j, by omega, rfl, h⟩
  · rintro (⟨j, hj, rfl, h⟩ | ⟨rfl, h⟩)
    · exact ⟨j, by omega, rfl, h⟩
    · exact ⟨i, by omega, rfl, h⟩
theorem xl_conf {post : Int64 → Prop} {t : Nat} {x k : Int32} (hL : gs_Lg n b T X K lt li lk) (hn : n ≤ 128) (hb : b ≤ 64) (h2 : t ≤ b) (hp : ∀ w, (∀ s, gs_m w s ↔ gs_Cf n T X K st t x k s) → post w) : wpX_conflictsOf post (sl, it, nI b, nI n, nI c, st, pr, rf, lt, li, lk, lv, so) (nI t) x k := by
  unfold wpX_conflictsOf
  dsimp only
  refine pk_loop (σ := Int64) (fun m i s => wX_conflictsOf_6 post (nI t) x k sl it (nI b) (nI n) (nI c) st pr rf lt li lk lv so m s (nI i)) (fun i s => ∀ z, gs_m s z ↔ gs_Cf i T X K st t x k z) n 0 0 (Nat.zero_le n) ?_ ?_ ?_
  · exact fun z => ⟨fun h => absurd h (gs_m_0 z), fun ⟨j, hj, _⟩ => absurd hj (by omega)⟩
  · intro m s hs
    exact pk_le n n (fun _ => hp s hs) (fun h => absurd h (by omega))
  · intro m i s hi hs kk
    refine pk_le n i (fun h => absurd h (by omega)) (fun _ => ?_)
    have hin : vp_in (nI i) 128 := vp_in_nI (by omega) (by omega)
    have hcl : (nI i).toNatClampNeg = i := nI_clamp (by omega)
    have h := hL i hi
    have no : ¬ (T i ≠ t ∧ X i = x ∧ ¬ ((K i ||| k) &&& 2 = 0) ∧ ¬ st (T i) = 5) → wX_conflictsOf_6 post (nI t) x k sl it (nI b) (nI n) (nI c) st pr rf lt li lk lv so m s (nI (i + 1)) := by
      intro hz
      refine kk s (fun z => ?_)
      rw [gs_Cf_s, hs z]
      exact ⟨Or.inl, fun y => y.elim (fun y => y) (fun y => absurd y.2 hz)⟩
    refine ⟨hin, ?_⟩
    rw [hcl, h.2.2.2.2]
    refine br_c (fun kz => ?_) (fun kz => ?_)
    · unfold wX_conflictsOf_34
      rw [hcl, h.1, h.2.2.2.1]
      refine ⟨hin, br_c (fun _ => nm_r (nI_1 i) (no (fun y => y.2.2.1 kz))) (fun _ => ⟨hin, br_c (fun _ => br_t rfl (nm_r (nI_1 i) (no (fun y => y.2.2.1 kz)))) (fun _ => nm_r (nI_1 i) (no (fun y => y.2.2.1 kz)))⟩)⟩
    · unfold wX_conflictsOf_34
      rw [hcl, h.1, h.2.2.2.1]
      refine ⟨hin, pk_eq (T i) t (fun e => nm_r (nI_1 i) (no (fun y => y.1 e))) (fun e => ⟨hin, br_c (fun ex => br_f (by decide) ?_) (fun ex => nm_r (nI_1 i) (no (fun y => ex y.2.1)))⟩)⟩
      refine xl_isStanding hL hn hb hi (fun d => ?_) (fun d => br_t rfl (nm_r (nI_1 i) (no (fun y => y.2.2.2 d))))
      refine br_f (by decide) ⟨hin, xo_bit h.2.1 (by omega) (nm_e (nm_r (nI_1 i) (kk _ (fun z => ?_))))⟩
      rw [gs_m_or, gs_Cf_s, hs z, gs_m_bit h.2.1 (by omega)]
      exact ⟨fun y => y.elim Or.inl (fun y => Or.inr ⟨y, e, ex, kz, d⟩), fun y => y.elim Or.inl (fun y => Or.inr y.1)⟩
theorem gs_nb01 {z : Int32} (h : z = 0 ∨ z = 1) : narrow .boolean (.int z) = .int z := by
  cases h with
  | inl h => rw [h]; rfl
  | inr h => rw [h]; rfl
theorem xl_cyc {post : Int32 → Prop} {E : Nat → Nat → Prop} {t : Nat} {w : Int64} (hb : b ≤ 64) (hE : gs_PE pr E) (hEb : ∀ s t, E s t → (1 ≤ s ∧ s ≤ b) ∧ (1 ≤ t ∧ t ≤ b)) (hS : ∀ s, gs_m w s → 1 ≤ s ∧ s ≤ b) (h1 : 1 ≤ t) (h2 : t ≤ b)
    (p1 : gs_Bk (gs_m w) E t → post 1) (p0 : ¬ gs_Bk (gs_m w) E t → post 0) : wpX_closesCycle post (sl, it, nI b, nI n, nI c, st, pr, rf, lt, li, lk, lv, so) (nI t) w := by
  unfold wpX_closesCycle
  dsimp only
  refine xo_withAnc hb hE hEb hS (fun w' hw => ?_)
  exact xo_has h1 (by omega) (fun h => ⟨gs_nb01 (Or.inr rfl), p1 ((hw t).mp h)⟩) (fun h => ⟨gs_nb01 (Or.inl rfl), p0 (fun z => h ((hw t).mpr z))⟩)
end
end
section
/-! X: public calls -/
def gs_ref (b n : Nat) (it : Int32) (st : Nat → Int32) (t x v : Int32) : Int32 :=
  if t < 1 ∨ (¬ t < 1 ∧ ¬ t ≤ nI b) then -1 else if ¬ st t.toNatClampNeg = 1 then -2 else if x < 0 ∨ ¬ x < it then -3 else if v < 0 ∨ ¬ v ≤ 999 then -4 else if 128 ≤ n then -5 else 0
/-- Xes of a refusal, for both sides -/
theorem gs_ref_c {b n : Nat} {it : Int32} {st : Nat → Int32} (t x v : Int32) (hb : b ≤ 64) :
    ((t < 1 ∨ (¬ t < 1 ∧ ¬ t ≤ nI b)) ∧ gs_ref b n it st t x v = -1) ∨ ∃ j, 1 ≤ j ∧ j ≤ b ∧ t = nI j ∧ ((¬ st j = 1 ∧ gs_ref b n it st t x v = -2) ∨ (st j = 1 ∧ (((x < 0 ∨ ¬ x < it) ∧ gs_ref b n it st t x v = -3) ∨ (¬ x < 0 ∧ x < it ∧
      (((v < 0 ∨ ¬ v ≤ 999) ∧ gs_ref b n it st t x v = -4) ∨ (¬ v < 0 ∧ v ≤ 999 ∧ ((128 ≤ n ∧ gs_ref b n it st t x v = -5) ∨ (n < 128 ∧ gs_ref b n it st t x v = 0)))))))) := by
  unfold gs_ref
  rcases gs_tc t hb with ⟨j, h1, h2, rfl⟩ | h
  · refine Or.inr ⟨j, h1, h2, rfl, ?_⟩
    have hn : ¬ (nI j < 1 ∨ (¬ nI j < 1 ∧ ¬ nI j ≤ nI b)) := by
      rintro (h | h)
      · have := (nI_ltI (b := 1) (by omega) (by omega)).mp h
        omega
      · exact h.2 (nI_le h2 (by omega))
    rw [if_neg hn, nI_clamp (show j < 2 ^ 31 by omega)]
    by_cases hs : st j = 1
    · refine Or.inr ⟨hs, ?_⟩
      rw [if_neg (fun z => z hs)]
      by_cases hx : x < 0 ∨ ¬ x < it
      · exact Or.inl ⟨hx, if_pos hx⟩
      · rw [if_neg hx]
        refine Or.inr ⟨fun z => hx (Or.inl z), Classical.byContradiction fun z => hx (Or.inr z), ?_⟩
        by_cases hv : v < 0 ∨ ¬ v ≤ 999
        · exact Or.inl ⟨hv, if_pos hv⟩
        · rw [if_neg hv]
          refine Or.inr ⟨fun z => hv (Or.inl z), Classical.byContradiction fun z => hv (Or.inr z), ?_⟩
          by_cases hn : 128 ≤ n
          · exact Or.inl ⟨hn, if_pos hn⟩
          · exact Or.inr ⟨by omega, if_neg hn⟩
    · exact Or.inl ⟨hs, if_pos hs⟩
  · exact Or.inl ⟨h, if_pos h⟩
section
variable {sl it : Int32} {b n c : Nat} {st : Nat → Int32} {pr rf : Nat → Int64} {lt li lk lv so : Nat → Int32} {T : Nat → Nat} {X K : Nat → Int32}
theorem xp_ref {post : Int32 → Prop} {t x v : Int32} (hb : b ≤ 64) (hn : n ≤ 128) (hp : post (gs_ref b n it st t x v)) : wpX_operationRefusal post (sl, it, nI b, nI n, nI c, st, pr, rf, lt, li, lk, lv, so) t x v := by
  unfold wpX_operationRefusal
  dsimp only
  rcases gs_ref_c (n := n) (it := it) (st := st) t x v hb with ⟨h, e⟩ | ⟨j, h1, h2, rfl, h⟩
  · rw [e] at hp
    exact xo_begun0 h (br_t rfl hp)
  · have hin : vp_in (nI j) 65 := vp_in_nI (by omega) (by omega)
    have hcl : (nI j).toNatClampNeg = j := nI_clamp (by omega)
    refine xo_begun1 h1 h2 hb (br_f (by decide) ⟨hin, ?_⟩)
    rw [hcl]
    rcases h with ⟨h, e⟩ | ⟨hs, h⟩
    · rw [e] at hp
      exact br_f h hp
    · refine br_t hs ?_
      rcases h with ⟨h, e⟩ | ⟨x0, x1, h⟩
      · rw [e] at hp
        exact xo_item0 h (br_t rfl hp)
      · refine xo_item1 x0 x1 (br_f (by decide) ?_)
        rcases h with ⟨h, e⟩ | ⟨v0, v1, h⟩
        · rw [e] at hp
          by_cases h0 : v < 0
          · exact br_t h0 hp
          · exact br_f h0 (br_f (h.resolve_left h0) hp)
        · refine br_f v0 (br_t v1 ?_)
          rcases h with ⟨h, e⟩ | ⟨h, e⟩
          · rw [e] at hp
            exact pk_lt n 128 (fun z => absurd z (by omega)) (fun _ => hp)
          · rw [e] at hp
            exact pk_lt n 128 (fun _ => hp) (fun z => absurd z (by omega))
theorem xp_read0 {post : Int32 → St2 → Prop} {t x : Int32} (hb : b ≤ 64) (hn : n ≤ 128) (h : ¬ gs_ref b n it st t x 0 = 0) (hp : post (gs_ref b n it st t x 0) (sl, it, nI b, nI n, nI c, st, pr, rf, lt, li, lk, lv, so)) : wpX_read post (sl, it, nI b, nI n, nI c, st, pr, rf, lt, li, lk, lv, so) t x := by
  unfold wpX_read
  dsimp only
  exact xp_ref hb hn (br_f h hp)
theorem xp_write0 {post : Int32 → St2 → Prop} {t x v : Int32} (hb : b ≤ 64) (hn : n ≤ 128) (h : ¬ gs_ref b n it st t x v = 0) (hp : post (gs_ref b n it st t x v) (sl, it, nI b, nI n, nI c, st, pr, rf, lt, li, lk, lv, so)) : wpX_write post (sl, it, nI b, nI n, nI c, st, pr, rf, lt, li, lk, lv, so) t x v := by
  unfold wpX_write
  dsimp only
  exact xp_ref hb hn (br_f h hp)
theorem xp_add0 {post : Int32 → St2 → Prop} {t x v : Int32} (hb : b ≤ 64) (hn : n ≤ 128) (h : ¬ gs_ref b n it st t x v = 0) (hp : post (gs_ref b n it st t x v) (sl, it, nI b, nI n, nI c, st, pr, rf, lt, li, lk, lv, so)) : wpX_add post (sl, it, nI b, nI n, nI c, st, pr, rf, lt, li, lk, lv, so) t x v := by
  unfold wpX_add
  dsimp only
  exact xp_ref hb hn (br_f h hp)
/-- what readFrom is behind a reading of t, whose source would be w -/
def gs_rfN (st : Nat → Int32) (rf : Nat → Int64) (t w : Nat) (r : Nat → Int64) : Prop :=
  (¬ (w ≠ 0 ∧ w ≠ t ∧ gs_un (st w)) ∧ r = rf) ∨ ((w ≠ 0 ∧ w ≠ t ∧ gs_un (st w)) ∧ r = vp_updL rf t (rf t ||| gs_bit w))
theorem xp_read {post : Int32 → St2 → Prop} {E F : Nat → Nat → Prop} {t : Nat} {x : Int32} (hb : b ≤ 64) (hc : c ≤ 64) (hn : n < 128) (hL : gs_Lg n b T X K lt li lk) (hE : gs_PE pr E) (hEb : ∀ s t, E s t → (1 ≤ s ∧ s ≤ b) ∧ (1 ≤ t ∧ t ≤ b)) (hF : gs_RF rf F)
    (h1 : 1 ≤ t) (h2 : t ≤ b) (h0 : gs_ref b n it st (nI t) x 0 = 0) {D : Nat → Prop} (hD : D = gs_Dm b F st t) {E' : Nat → Nat → Prop} (hE' : E' = gs_EA E D) {g : (Nat → Int32) × (Nat → Int32) × Nat} (hg : g = gs_set b E' (64 - c) (gs_abs D st b) so c)
    (pC : gs_Bk (gs_Cf n T X K st t x 1) E t → ∀ p, gs_PE p E' → post (-6) (sl, it, nI b, nI n, nI (g.2.2), g.1, p, rf, lt, li, lk, lv, g.2.1))
    (pG : ¬ gs_Bk (gs_Cf n T X K st t x 1) E t → ∀ w, (∀ s, gs_m w s ↔ gs_Cf n T X K st t x 1 s) → ∀ r, gs_rfN st rf t (gs_wrt T (gs_lst (gs_Wr T X K st x) n)) r →
      post (gs_val 0 lv (gs_lst (gs_Wr T X K st x) n)) (sl, it, nI b, nI (n + 1), nI c, st, vp_updL pr t (pr t ||| w), r, upd lt n (nI t), upd li n x, upd lk n 1, upd lv n (gs_val 0 lv (gs_lst (gs_Wr T X K st x) n)), so)) : wpX_read post (sl, it, nI b, nI n, nI c, st, pr, rf, lt, li, lk, lv, so) (nI t) x := by
  unfold wpX_read
  dsimp only
  refine xp_ref hb (by omega) ?_
  rw [h0]
  refine br_t rfl (xl_conf hL (by omega) hb h2 (fun w hw => ?_))
  have hk : gs_Bk (gs_m w) E t ↔ gs_Bk (gs_Cf n T X K st t x 1) E t := gs_L_c hw (fun _ _ => Iff.rfl) t
  refine xl_cyc hb hE hEb (fun s h => gs_Cf_in hL ((hw s).mp h)) h1 h2 (fun z => ?_) (fun z => ?_)
  · exact br_f (by decide) (xo_abort hb hc hE hEb hF h1 h2 hD hE' hg (fun p hp => pC (hk.mp z) p hp))
  · have z' := fun y => z (hk.mpr y)
    refine br_t rfl (xl_cur hL (by omega) hb (xl_note hL (by omega) hb h2 rfl (fun q => ?_) (fun q1 q2 q3 => ?_)))
    · exact xl_enter hn hb h2 (pG z' w hw rf (Or.inl ⟨q, rfl⟩))
    · exact xl_enter hn hb h2 (pG z' w hw _ (Or.inr ⟨⟨q1, q2, q3⟩, rfl⟩))
theorem xp_write {post : Int32 → St2 → Prop} {E F : Nat → Nat → Prop} {t : Nat} {x v : Int32} (hb : b ≤ 64) (hc : c ≤ 64) (hn : n < 128) (hL : gs_Lg n b T X K lt li lk) (hE : gs_PE pr E) (hEb : ∀ s t, E s t → (1 ≤ s ∧ s ≤ b) ∧ (1 ≤ t ∧ t ≤ b)) (hF : gs_RF rf F)
    (h1 : 1 ≤ t) (h2 : t ≤ b) (h0 : gs_ref b n it st (nI t) x v = 0) {D : Nat → Prop} (hD : D = gs_Dm b F st t) {E' : Nat → Nat → Prop} (hE' : E' = gs_EA E D) {g : (Nat → Int32) × (Nat → Int32) × Nat} (hg : g = gs_set b E' (64 - c) (gs_abs D st b) so c)
    (pC : gs_Bk (gs_Cf n T X K st t x 2) E t → ∀ p, gs_PE p E' → post (-6) (sl, it, nI b, nI n, nI (g.2.2), g.1, p, rf, lt, li, lk, lv, g.2.1))
    (pG : ¬ gs_Bk (gs_Cf n T X K st t x 2) E t → ∀ w, (∀ s, gs_m w s ↔ gs_Cf n T X K st t x 2 s) →
      post 0 (sl, it, nI b, nI (n + 1), nI c, st, vp_updL pr t (pr t ||| w), rf, upd lt n (nI t), upd li n x, upd lk n 2, upd lv n v, so)) : wpX_write post (sl, it, nI b, nI n, nI c, st, pr, rf, lt, li, lk, lv, so) (nI t) x v := by
  unfold wpX_write
  dsimp only
  refine xp_ref hb (by omega) ?_
  rw [h0]
  refine br_t rfl (xl_conf hL (by omega) hb h2 (fun w hw => ?_))
  have hk : gs_Bk (gs_m w) E t ↔ gs_Bk (gs_Cf n T X K st t x 2) E t := gs_L_c hw (fun _ _ => Iff.rfl) t
  refine xl_cyc hb hE hEb (fun s h => gs_Cf_in hL ((hw s).mp h)) h1 h2 (fun z => ?_) (fun z => ?_)
  · exact br_f (by decide) (xo_abort hb hc hE hEb hF h1 h2 hD hE' hg (fun p hp => pC (hk.mp z) p hp))
  · exact br_t rfl (xl_enter hn hb h2 (pG (fun y => z (hk.mpr y)) w hw))
theorem xp_add {post : Int32 → St2 → Prop} {E F : Nat → Nat → Prop} {t : Nat} {x v a : Int32} (hb : b ≤ 64) (hc : c ≤ 64) (hn : n < 128) (hL : gs_Lg n b T X K lt li lk) (hE : gs_PE pr E) (hEb : ∀ s t, E s t → (1 ≤ s ∧ s ≤ b) ∧ (1 ≤ t ∧ t ≤ b)) (hF : gs_RF rf F)
    (h1 : 1 ≤ t) (h2 : t ≤ b) (h0 : gs_ref b n it st (nI t) x v = 0) {D : Nat → Prop} (hD : D = gs_Dm b F st t) {E' : Nat → Nat → Prop} (hE' : E' = gs_EA E D) {g : (Nat → Int32) × (Nat → Int32) × Nat} (hg : g = gs_set b E' (64 - c) (gs_abs D st b) so c)
    (ha : a = (gs_val 0 lv (gs_lst (gs_Wr T X K st x) n) + v) - (gs_val 0 lv (gs_lst (gs_Wr T X K st x) n) + v) / 1000 * 1000)
    (pC : gs_Bk (gs_Cf n T X K st t x 3) E t → ∀ p, gs_PE p E' → post (-6) (sl, it, nI b, nI n, nI (g.2.2), g.1, p, rf, lt, li, lk, lv, g.2.1))
    (pG : ¬ gs_Bk (gs_Cf n T X K st t x 3) E t → ∀ w, (∀ s, gs_m w s ↔ gs_Cf n T X K st t x 3 s) → ∀ r, gs_rfN st rf t (gs_wrt T (gs_lst (gs_Wr T X K st x) n)) r →
      post a (sl, it, nI b, nI (n + 1), nI c, st, vp_updL pr t (pr t ||| w), r, upd lt n (nI t), upd li n x, upd lk n 3, upd lv n a, so)) : wpX_add post (sl, it, nI b, nI n, nI c, st, pr, rf, lt, li, lk, lv, so) (nI t) x v := by
  unfold wpX_add
  dsimp only
  refine xp_ref hb (by omega) ?_
  rw [h0]
  refine br_t rfl (xl_conf hL (by omega) hb h2 (fun w hw => ?_))
  have hk : gs_Bk (gs_m w) E t ↔ gs_Bk (gs_Cf n T X K st t x 3) E t := gs_L_c hw (fun _ _ => Iff.rfl) t
  refine xl_cyc hb hE hEb (fun s h => gs_Cf_in hL ((hw s).mp h)) h1 h2 (fun z => ?_) (fun z => ?_)
  · exact br_f (by decide) (xo_abort hb hc hE hEb hF h1 h2 hD hE' hg (fun p hp => pC (hk.mp z) p hp))
  · have z' := fun y => z (hk.mpr y)
    refine br_t rfl (xl_cur hL (by omega) hb ⟨by decide, nm_r ha.symm (xl_note hL (by omega) hb h2 rfl (fun q => ?_) (fun q1 q2 q3 => ?_))⟩)
    · exact xl_enter hn hb h2 (pG z' w hw rf (Or.inl ⟨q, rfl⟩))
    · exact xl_enter hn hb h2 (pG z' w hw _ (Or.inr ⟨⟨q1, q2, q3⟩, rfl⟩))
theorem xp_settledValue {post : Int32 → Prop} {x : Int32} (hL : gs_Lg n b T X K lt li lk) (hn : n ≤ 128) (hb : b ≤ 64) (x0 : ¬ x < 0) (x1 : x < it) (hp : post (gs_val 0 lv (gs_lst (gs_Ws T X K st x) n))) : wpX_settledValue post (sl, it, nI b, nI n, nI c, st, pr, rf, lt, li, lk, lv, so) x := by
  unfold wpX_settledValue
  dsimp only
  refine xo_item1 x0 x1 (br_f (by decide) (nm_e ⟨n + 1, ?_⟩))
  refine pk_loopD (σ := Unit) (fun m i _ => wX_settledValue_18 post x sl it (nI b) (nI n) (nI c) st pr rf lt li lk lv so m (nI i - 1)) (fun i _ => i ≤ n ∧ gs_lst (gs_Ws T X K st x) i = gs_lst (gs_Ws T X K st x) n) ?_ ?_ n () ⟨Nat.le_refl n, rfl⟩
  · intro m _ h
    rw [← h.2] at hp
    exact br_t gs_dn0 hp
  · intro m i _ h k
    rw [nI_pred]
    have hi := hL i (by omega)
    have hin : vp_in (nI i) 128 := vp_in_nI (by omega) (by omega)
    have hcl : (nI i).toNatClampNeg = i := nI_clamp (by omega)
    have hct : (nI (T i)).toNatClampNeg = T i := nI_clamp (by omega)
    refine br_f (nI_pos (by omega)) ?_
    refine xl_writesItem hL hn (by omega) (fun a => ?_) (fun a => ?_)
    · refine br_f (by decide) ⟨hin, ?_⟩
      rw [hcl, hi.1, hct]
      refine ⟨vp_in_nI (by omega) (by omega), br_c (fun d => ?_) (fun d => ?_)⟩
      · rw [gs_lst_t ⟨a, d⟩] at h
        rw [← h.2] at hp
        exact ⟨hin, hp⟩
      · rw [gs_lst_f (fun z => d z.2)] at h
        exact nm_r (gs_dn i) (k () ⟨by omega, h.2⟩)
    · rw [gs_lst_f (fun z => a z.1)] at h
      exact br_t rfl (nm_r (gs_dn i) (k () ⟨by omega, h.2⟩))
end
end
section
/-! the invariants of a run, without the law -/
def gp_fin (s : Int32) : Prop := s = 3 ∨ s = 4
theorem gp_fin_un {s : Int32} (h : gp_fin s) : ¬ gs_un s := by
  rcases h with h | h <;> rw [h] <;> unfold gs_un <;> decide
theorem gp_fin_5 {s : Int32} (h : gp_fin s) : ¬ s = 5 := by
  rcases h with h | h <;> rw [h] <;> decide
theorem gp_un_5 {s : Int32} (h : gs_un s) : ¬ s = 5 := by
  rcases h with h | h <;> rw [h] <;> decide
def gp_bs (s : Int32) : Prop := s = 1 ∨ s = 2 ∨ s = 3 ∨ s = 4 ∨ s = 5
theorem gp_bs_c {s : Int32} (h : gp_bs s) : gs_un s ∨ gp_fin s ∨ s = 5 := by
  rcases h with h | h | h | h | h
  · exact Or.inl (Or.inl h)
  · exact Or.inl (Or.inr h)
  · exact Or.inr (Or.inl (Or.inl h))
  · exact Or.inr (Or.inl (Or.inr h))
  · exact Or.inr (Or.inr h)
/-- the states -/
def gp_S (b : Nat) (E F : Nat → Nat → Prop) (st : Nat → Int32) : Prop :=
  (∀ t w, F t w → (1 ≤ t ∧ t ≤ b) ∧ (1 ≤ w ∧ w ≤ b) ∧ (¬ st w = 5 → ¬ st t = 5 → E w t)) ∧ (∀ t w, F t w → st w = 5 → st t = 5) ∧ (∀ t w, F t w → gp_fin (st t) → gp_fin (st w)) ∧ (∀ t, 1 ≤ t → t ≤ b → gp_bs (st t))
/-- the settled order -/
def gp_Q (b : Nat) (E : Nat → Nat → Prop) (st so : Nat → Int32) (c : Nat) (q : Nat → Nat) : Prop :=
  c = gs_cnt (fun t => st t = 4) b ∧ (∀ k, k < c → so k = nI (q k) ∧ (1 ≤ q k ∧ q k ≤ b) ∧ st (q k) = 4) ∧ (∀ k k', k < c → k' < c → q k = q k' → k = k') ∧ (∀ t, 1 ≤ t → t ≤ b → st t = 4 → ∃ k, k < c ∧ q k = t) ∧ (∀ k, k < c → ∀ s, E s (q k) → ∃ k', k' < k ∧ q k' = s)
def gp_ap (k a v : Int32) : Int32 := if k = 1 then v else if k = 2 then a else (v + a) - (v + a) / 1000 * 1000
/-- the values -/
def gp_V (n : Nat) (T : Nat → Nat) (X K lv A st : Nat → Int32) (F : Nat → Nat → Prop) : Prop :=
  (∀ j, j < n → ¬ st (T j) = 5 → lv j = gp_ap (K j) (A j) (gs_val 0 lv (gs_lst (gs_Wr T X K st (X j)) j))) ∧ (∀ j, j < n → ¬ st (T j) = 5 → ¬ K j &&& 1 = 0 → ∀ i, gs_lst (gs_Wr T X K st (X j)) j = i + 1 → T i = T j ∨ F (T j) (T i) ∨ gp_fin (st (T i)))
theorem gp_V_mono {n b : Nat} {T : Nat → Nat} {X K lv A st st' lt li lk : Nat → Int32} {F : Nat → Nat → Prop} (hL : gs_Lg n b T X K lt li lk) (h : gp_V n T X K lv A st F) (h5 : ∀ s, 1 ≤ s → s ≤ b → (st' s = 5 ↔ st s = 5)) (hf : ∀ s, 1 ≤ s → s ≤ b → gp_fin (st s) → gp_fin (st' s)) : gp_V n T X K lv A st' F := by
  have e : ∀ j, j ≤ n → ∀ x, gs_lst (gs_Wr T X K st' x) j = gs_lst (gs_Wr T X K st x) j := by
    intro j hj x
    refine gs_lst_c (fun i hi => ?_)
    have q := hL i (by omega)
    unfold gs_Wr
    rw [h5 _ q.2.1 q.2.2.1]
  constructor
  · intro j hj hs
    have q := hL j hj
    rw [e j (by omega)]
    exact h.1 j hj (fun z => hs ((h5 _ q.2.1 q.2.2.1).mpr z))
  · intro j hj hs hk i hi
    have q := hL j hj
    rw [e j (by omega)] at hi
    have q' := hL i (by have := (gs_lst_in hi).1; omega)
    rcases h.2 j hj (fun z => hs ((h5 _ q.2.1 q.2.2.1).mpr z)) hk i hi with z | z | z
    · exact Or.inl z
    · exact Or.inr (Or.inl z)
    · exact Or.inr (Or.inr (hf _ q'.2.1 q'.2.2.1 z))
theorem gp_lst_sub {P Q : Nat → Prop} {m : Nat} (hPQ : ∀ j, j < m → Q j → P j) (h : ∀ i, gs_lst P m = i + 1 → Q i) : gs_lst Q m = gs_lst P m := by
  induction m with
  | zero => rfl
  | succ m ih =>
    by_cases c : P m
    · rw [gs_lst_t c]
      rw [gs_lst_t c] at h
      rw [gs_lst_t (h m rfl)]
    · rw [gs_lst_f c, gs_lst_f (fun z => c (hPQ m (by omega) z))]
      rw [gs_lst_f c] at h
      exact ih (fun j hj => hPQ j (by omega)) h
theorem gp_ap2 (a v v' : Int32) {k : Int32} (hk : k = 1 ∨ k = 2 ∨ k = 3) (h0 : k &&& 1 = 0) : gp_ap k a v = gp_ap k a v' := by
  rcases hk with h | h | h
  · rw [h] at h0
    exact absurd h0 (by decide)
  · unfold gp_ap
    rw [h, if_neg (show ¬ (2 : Int32) = 1 by decide), if_neg (show ¬ (2 : Int32) = 1 by decide), if_pos rfl, if_pos rfl]
  · rw [h] at h0
    exact absurd h0 (by decide)
theorem gp_V_ab {n b : Nat} {T : Nat → Nat} {X K lv A st st' lt li lk : Nat → Int32} {E F : Nat → Nat → Prop} {D : Nat → Prop} (hL : gs_Lg n b T X K lt li lk) (hK : ∀ j, j < n → K j = 1 ∨ K j = 2 ∨ K j = 3) (hS : gp_S b E F st) (h : gp_V n T X K lv A st F)
    (hD : ∀ s, D s → gs_un (st s)) (hc : ∀ u w, F u w → gs_un (st u) → D w → D u) (h5 : ∀ s, st' s = 5 ↔ (st s = 5 ∨ D s)) (hf : ∀ s, ¬ D s → st' s = st s) : gp_V n T X K lv A st' F := by
  have e : ∀ j, j < n → ¬ st' (T j) = 5 → ¬ K j &&& 1 = 0 → gs_lst (gs_Wr T X K st' (X j)) j = gs_lst (gs_Wr T X K st (X j)) j := by
    intro j hj hs hk
    have hs0 : ¬ st (T j) = 5 := fun z => hs ((h5 _).mpr (Or.inl z))
    have hDj : ¬ D (T j) := fun z => hs ((h5 _).mpr (Or.inr z))
    refine gp_lst_sub (fun i _ z => ⟨z.1, fun y => z.2 ((h5 _).mpr (Or.inl y))⟩) (fun i hi => ?_)
    have z := (gs_lst_in hi).2
    refine ⟨z.1, fun y => ?_⟩
    have hd : D (T i) := ((h5 _).mp y).resolve_left z.2
    rcases h.2 j hj hs0 hk i hi with g | g | g
    · rw [g] at hd
      exact hDj hd
    · rcases gp_bs_c (hS.2.2.2 (T j) (hL j hj).2.1 (hL j hj).2.2.1) with a | a | a
      · exact hDj (hc _ _ g a hd)
      · exact gp_fin_un (hS.2.2.1 _ _ g a) (hD _ hd)
      · exact hs0 a
    · exact gp_fin_un g (hD _ hd)
  constructor
  · intro j hj hs
    have hs0 : ¬ st (T j) = 5 := fun z => hs ((h5 _).mpr (Or.inl z))
    by_cases hk : K j &&& 1 = 0
    · rw [h.1 j hj hs0]
      exact gp_ap2 _ _ _ (hK j hj) hk
    · rw [e j hj hs hk]
      exact h.1 j hj hs0
  · intro j hj hs hk i hi
    have hs0 : ¬ st (T j) = 5 := fun z => hs ((h5 _).mpr (Or.inl z))
    rw [e j hj hs hk] at hi
    rcases h.2 j hj hs0 hk i hi with g | g | g
    · exact Or.inl g
    · exact Or.inr (Or.inl g)
    · refine Or.inr (Or.inr ?_)
      rw [hf _ (fun d => gp_fin_un g (hD _ d))]
      exact g
theorem gp_V_app {n b : Nat} {T : Nat → Nat} {X K lv A st lt li lk : Nat → Int32} {E F F' : Nat → Nat → Prop} {t : Nat} {x k a v : Int32} (hL : gs_Lg n b T X K lt li lk) (hS : gp_S b E F st) (h : gp_V n T X K lv A st F)
    (hv : v = gp_ap k a (gs_val 0 lv (gs_lst (gs_Wr T X K st x) n))) (hF : ∀ u w, F u w → F' u w) (hN : ¬ k &&& 1 = 0 → ∀ i, gs_lst (gs_Wr T X K st x) n = i + 1 → T i = t ∨ F' t (T i) ∨ gp_fin (st (T i))) :
    gp_V (n + 1) (gs_apN T n t) (upd X n x) (upd K n k) (upd lv n v) (upd A n a) st F' := by
  have e : ∀ j, j ≤ n → ∀ y, gs_lst (gs_Wr (gs_apN T n t) (upd X n x) (upd K n k) st y) j = gs_lst (gs_Wr T X K st y) j := by
    intro j hj y
    refine gs_lst_c (fun i hi => ?_)
    have ne : i ≠ n := by omega
    unfold gs_Wr
    rw [gs_apN_n ne, pk_un ne, pk_un ne]
  have ev : ∀ j, j ≤ n → ∀ P, gs_val 0 (upd lv n v) (gs_lst P j) = gs_val 0 lv (gs_lst P j) := by
    intro j hj P
    cases q : gs_lst P j with
    | zero => rfl
    | succ i => exact pk_un (by have := (gs_lst_in q).1; omega)
  constructor
  · intro j hj hs
    by_cases ej : j = n
    · subst ej
      rw [pk_us, pk_us, pk_us, pk_us, e j (Nat.le_refl j), ev j (Nat.le_refl j)]
      exact hv
    · rw [pk_un ej, pk_un ej, pk_un ej, pk_un ej, e j (by omega), ev j (by omega)]
      rw [gs_apN_n ej] at hs
      exact h.1 j (by omega) hs
  · intro j hj hs hk i hi
    by_cases ej : j = n
    · subst ej
      rw [pk_us] at hk
      rw [pk_us, e j (Nat.le_refl j)] at hi
      have ne : i ≠ j := by have := (gs_lst_in hi).1; omega
      rw [gs_apN_s, gs_apN_n ne]
      exact hN hk i hi
    · rw [pk_un ej] at hk
      rw [pk_un ej, e j (by omega)] at hi
      have ne : i ≠ n := by have := (gs_lst_in hi).1; omega
      rw [gs_apN_n ej] at hs
      rw [gs_apN_n ej, gs_apN_n ne]
      rcases h.2 j (by omega) hs hk i hi with g | g | g
      · exact Or.inl g
      · exact Or.inr (Or.inl (hF _ _ g))
      · exact Or.inr (Or.inr g)
/-! settling keeps all -/
/-- what a call may do to the states: finished ones stay, nobody gets active -/
def gp_st (b : Nat) (st st' : Nat → Int32) : Prop := ∀ s, 1 ≤ s → s ≤ b → (st s = 4 → st' s = 4) ∧ (st s = 5 → st' s = 5) ∧ (st' s = 1 → st s = 1)
theorem gp_st_r (b : Nat) (st : Nat → Int32) : gp_st b st st := fun _ _ _ => ⟨fun h => h, fun h => h, fun h => h⟩
theorem gp_st_t {b : Nat} {st st' st2 : Nat → Int32} (h : gp_st b st st') (h' : gp_st b st' st2) : gp_st b st st2 :=
  fun s h1 h2 => ⟨fun z => (h' s h1 h2).1 ((h s h1 h2).1 z), fun z => (h' s h1 h2).2.1 ((h s h1 h2).2.1 z), fun z => (h s h1 h2).2.2 ((h' s h1 h2).2.2 z)⟩
theorem gp_set1 {b c r : Nat} {E F : Nat → Nat → Prop} {st so : Nat → Int32} {q : Nat → Nat} (hS : gp_S b E F st) (hQ : gp_Q b E st so c q) (hEb : ∀ s t, E s t → (1 ≤ s ∧ s ≤ b) ∧ ¬ st s = 5) (hG : ∀ t, 1 ≤ t → t ≤ b → ¬ gs_Go F st t)
    (h1 : 1 ≤ r) (h2 : r ≤ b) (hr : gs_Rd E st r) : gp_S b E F (upd st r 4) ∧ gp_Q b E (upd st r 4) (upd so c (nI r)) (c + 1) (gs_apN q c r) ∧ (∀ t, 1 ≤ t → t ≤ b → ¬ gs_Go F (upd st r 4) t) ∧ (∀ s, upd st r 4 s = 5 ↔ st s = 5) ∧ (∀ s, gp_fin (st s) → gp_fin (upd st r 4 s)) ∧ gp_st b st (upd st r 4) := by
  have h3 := hr.1
  have h5 : ∀ s, upd st r 4 s = 5 ↔ st s = 5 := by
    intro s
    by_cases e : s = r
    · rw [e, pk_us, h3]
      decide
    · rw [pk_un e]
  have hf : ∀ s, gp_fin (st s) ↔ gp_fin (upd st r 4 s) := by
    intro s
    by_cases e : s = r
    · rw [e, pk_us, h3]
      unfold gp_fin
      decide
    · rw [pk_un e]
  have hu : ∀ s, gs_un (upd st r 4 s) ↔ gs_un (st s) := by
    intro s
    by_cases e : s = r
    · rw [e, pk_us, h3]
      unfold gs_un
      decide
    · rw [pk_un e]
  refine ⟨⟨?_, ?_, ?_, ?_⟩, ⟨?_, ?_, ?_, ?_, ?_⟩, ?_, h5, fun s => (hf s).mp, ?_⟩
  · intro t w h
    have g := hS.1 t w h
    exact ⟨g.1, g.2.1, fun a d => g.2.2 (fun z => a ((h5 w).mpr z)) (fun z => d ((h5 t).mpr z))⟩
  · exact fun t w h a => (h5 t).mpr (hS.2.1 t w h ((h5 w).mp a))
  · exact fun t w h a => (hf w).mp (hS.2.2.1 t w h ((hf t).mpr a))
  · intro t a d
    by_cases e : t = r
    · rw [e, pk_us]
      exact Or.inr (Or.inr (Or.inr (Or.inl rfl)))
    · rw [pk_un e]
      exact hS.2.2.2 t a d
  · have := gs_cnt_rm (A := fun t => upd st r 4 t = 4) (B := fun t => st t = 4) (s := r) pk_us (by rw [h3]; decide) (fun j hj => by rw [pk_un hj]) h1 h2
    rw [← this, ← hQ.1]
  · intro k hk
    by_cases e : k = c
    · subst e
      rw [pk_us, gs_apN_s, pk_us]
      exact ⟨rfl, ⟨h1, h2⟩, rfl⟩
    · have g := hQ.2.1 k (by omega)
      rw [pk_un e, gs_apN_n e]
      refine ⟨g.1, g.2.1, ?_⟩
      by_cases e' : q k = r
      · rw [e', pk_us]
      · rw [pk_un e']
        exact g.2.2
  · have nr : ∀ k, k < c → q k ≠ r := fun k hk e => by
      have g := (hQ.2.1 k hk).2.2
      rw [e, h3] at g
      exact absurd g (by decide)
    intro k k' hk hk' e
    by_cases a : k = c
    · by_cases d : k' = c
      · omega
      · rw [a, gs_apN_s, gs_apN_n d] at e
        exact absurd e.symm (nr k' (by omega))
    · by_cases d : k' = c
      · rw [d, gs_apN_s, gs_apN_n a] at e
        exact absurd e (nr k (by omega))
      · rw [gs_apN_n a, gs_apN_n d] at e
        exact hQ.2.2.1 k k' (by omega) (by omega) e
  · intro t a d ht
    by_cases e : t = r
    · exact ⟨c, by omega, by rw [gs_apN_s, e]⟩
    · rw [pk_un e] at ht
      obtain ⟨k, hk, e'⟩ := hQ.2.2.2.1 t a d ht
      exact ⟨k, by omega, by rw [gs_apN_n (by omega), e']⟩
  · intro k hk s hs
    by_cases e : k = c
    · subst e
      rw [gs_apN_s] at hs
      have g := hEb s r hs
      have g4 : st s = 4 := by
        have no := hr.2 s hs
        rcases hS.2.2.2 s g.1.1 g.1.2 with z | z | z | z | z
        · exact absurd (Or.inl z) no
        · exact absurd (Or.inr (Or.inl z)) no
        · exact absurd (Or.inr (Or.inr z)) no
        · exact z
        · exact absurd z g.2
      obtain ⟨k', hk', e'⟩ := hQ.2.2.2.1 s g.1.1 g.1.2 g4
      exact ⟨k', hk', by rw [gs_apN_n (by omega), e']⟩
    · rw [gs_apN_n e] at hs
      obtain ⟨k', hk', e'⟩ := hQ.2.2.2.2 k (by omega) s hs
      exact ⟨k', hk', by rw [gs_apN_n (by omega), e']⟩
  · intro t a d hg
    refine hG t a d ⟨?_, fun w hw z => hg.2 w hw ((hu w).mpr z)⟩
    have g := hg.1
    by_cases e : t = r
    · rw [e, pk_us] at g
      exact absurd g (by decide)
    · rw [pk_un e] at g
      exact g
  · intro s _ _
    by_cases e : s = r
    · rw [e, pk_us, h3]
      exact ⟨fun _ => rfl, fun z => absurd z (by decide), fun z => absurd z (by decide)⟩
    · rw [pk_un e]
      exact ⟨fun z => z, fun z => z, fun z => z⟩
theorem gp_setA {b : Nat} (hb : b < 64) {E F : Nat → Nat → Prop} (f : Nat) : ∀ (st so : Nat → Int32) (c : Nat) (q : Nat → Nat), c + f = 64 → gp_S b E F st → gp_Q b E st so c q → (∀ s t, E s t → (1 ≤ s ∧ s ≤ b) ∧ ¬ st s = 5) → (∀ t, 1 ≤ t → t ≤ b → ¬ gs_Go F st t) →
    ∃ q' : Nat → Nat, gp_S b E F (gs_set b E f st so c).1 ∧ gp_Q b E (gs_set b E f st so c).1 (gs_set b E f st so c).2.1 (gs_set b E f st so c).2.2 q' ∧ (∀ t, 1 ≤ t → t ≤ b → ¬ gs_Go F (gs_set b E f st so c).1 t) ∧ (∀ t, 1 ≤ t → t ≤ b → ¬ gs_Rd E (gs_set b E f st so c).1 t) ∧
      (∀ s, (gs_set b E f st so c).1 s = 5 ↔ st s = 5) ∧ (∀ s, gp_fin (st s) → gp_fin ((gs_set b E f st so c).1 s)) ∧ gp_st b st (gs_set b E f st so c).1 ∧ c ≤ (gs_set b E f st so c).2.2 ∧ (∀ k, k < c → q' k = q k) := by
  induction f with
  | zero =>
    intro st so c q hc hS hQ hEb hG
    have := hQ.1
    have := gs_cnt_le (fun t => st t = 4) b
    omega
  | succ f ih =>
    intro st so c q hc hS hQ hEb hG
    rcases gs_nx_or b E st with e | ⟨e1, e2, e3⟩
    · rw [gs_set_0 e]
      refine ⟨q, hS, hQ, hG, ?_, fun s => Iff.rfl, fun s h => h, gp_st_r b st, Nat.le_refl c, fun _ _ => rfl⟩
      intro t h1 h2
      rcases gs_fst_or (gs_Rd E st) b 1 (Nat.le_refl 1) with z | z
      · exact z.2 t h1 (by omega)
      · have : gs_fst (gs_Rd E st) b 1 = 0 := e
        omega
    · have hne : ¬ gs_nx b E st = 0 := by omega
      rw [gs_set_s hne]
      obtain ⟨a1, a2, a3, a4, a5, a6⟩ := gp_set1 hS hQ hEb hG e1 e2 e3
      obtain ⟨q', g1, g2, g3, g4, g5, g6, g7, g8, g9⟩ := ih (upd st (gs_nx b E st) 4) (upd so c (nI (gs_nx b E st))) (c + 1) (gs_apN q c (gs_nx b E st)) (by omega) a1 a2 (fun s t h => ⟨(hEb s t h).1, fun z => (hEb s t h).2 ((a4 s).mp z)⟩) a3
      exact ⟨q', g1, g2, g3, g4, fun s => (g5 s).trans (a4 s), fun s h => g6 s (a5 s h), gp_st_t a6 g7, by omega, fun k hk => (g9 k (by omega)).trans (gs_apN_n (by omega))⟩
end
section
/-! the calls keep the invariants -/
def gp_J (b n c : Nat) (st so : Nat → Int32) (pr rf : Nat → Int64) (T : Nat → Nat) (X K lt li lk lv A : Nat → Int32) (F : Nat → Nat → Prop) (q : Nat → Nat) : Prop :=
  (b < 64 ∧ n ≤ 128 ∧ c ≤ 64) ∧ gs_Lg n b T X K lt li lk ∧ (∀ j, j < n → K j = 1 ∨ K j = 2 ∨ K j = 3) ∧ (∀ j, j < n → ∃ v, v < 1000 ∧ lv j = nI v) ∧ gs_PE pr (gs_E n T X K st) ∧ gs_RF rf F ∧ (∀ z, ¬ gs_Pl (gs_E n T X K st) z z) ∧
    gp_S b (gs_E n T X K st) F st ∧ gp_Q b (gs_E n T X K st) st so c q ∧ (∀ t, 1 ≤ t → t ≤ b → ¬ gs_Go F st t) ∧ (∀ t, 1 ≤ t → t ≤ b → ¬ gs_Rd (gs_E n T X K st) st t) ∧ gp_V n T X K lv A st F
theorem gp_Eb {n b : Nat} {T : Nat → Nat} {X K lt li lk st : Nat → Int32} (hL : gs_Lg n b T X K lt li lk) (s t : Nat) (h : gs_E n T X K st s t) : (1 ≤ s ∧ s ≤ b) ∧ (1 ≤ t ∧ t ≤ b) := ⟨(gs_E_in hL h).1, (gs_E_in hL h).2.1⟩
theorem gp_Ee {n : Nat} {T : Nat → Nat} {X K st st' : Nat → Int32} (h : ∀ s, st' s = 5 ↔ st s = 5) : gs_E n T X K st' = gs_E n T X K st := funext fun s => funext fun t => propext (gs_E_c h s t)
theorem gp_EA {n b : Nat} {T : Nat → Nat} {X K st : Nat → Int32} {D : Nat → Prop} (hD : ∀ j, D j → 1 ≤ j ∧ j ≤ b) : gs_E n T X K (gs_abs D st b) = gs_EA (gs_E n T X K st) D :=
  funext fun s => funext fun t => propext (gs_E_ab (gs_abs_5 hD) s t)
section
variable {b n c : Nat} {st so : Nat → Int32} {pr rf : Nat → Int64} {T : Nat → Nat} {X K lt li lk lv A : Nat → Int32} {F : Nat → Nat → Prop} {q : Nat → Nat}
theorem gp_J_set {p : Nat → Int64} {E1 : Nat → Nat → Prop} {st1 : Nat → Int32} (h0 : b < 64 ∧ n ≤ 128 ∧ c ≤ 64) (hL : gs_Lg n b T X K lt li lk) (hK : ∀ j, j < n → K j = 1 ∨ K j = 2 ∨ K j = 3) (hv : ∀ j, j < n → ∃ v, v < 1000 ∧ lv j = nI v)
    (hE1 : E1 = gs_E n T X K st1) (hE : gs_PE p E1) (hRF : gs_RF rf F) (hA : ∀ z, ¬ gs_Pl E1 z z) (hS : gp_S b E1 F st1) (hQ : gp_Q b E1 st1 so c q) (hG : ∀ t, 1 ≤ t → t ≤ b → ¬ gs_Go F st1 t) (hV : gp_V n T X K lv A st1 F)
    {g : (Nat → Int32) × (Nat → Int32) × Nat} (hg : g = gs_set b E1 (64 - c) st1 so c) :
    ∃ q', gp_J b n g.2.2 g.1 g.2.1 p rf T X K lt li lk lv A F q' ∧ gp_st b st1 g.1 ∧ c ≤ g.2.2 ∧ (∀ k, k < c → q' k = q k) := by
  obtain ⟨q', g1, g2, g3, g4, g5, g6, g7, g8, g9⟩ := gp_setA h0.1 (64 - c) st1 so c q (by omega) hS hQ (fun s t h => by rw [hE1] at h; exact ⟨(gs_E_in hL h).1, (gs_E_in hL h).2.2.1⟩) hG
  have q2 := (gs_set_ab b E1 (64 - c) st1 so c).2
  rw [← hg] at g1 g2 g3 g4 g5 g6 g7 g8 q2
  have e : gs_E n T X K g.1 = E1 := by
    rw [hE1]
    exact gp_Ee g5
  refine ⟨q', ⟨⟨h0.1, h0.2.1, by omega⟩, hL, hK, hv, ?_, hRF, ?_, ?_, ?_, g3, ?_, gp_V_mono hL hV (fun s _ _ => g5 s) (fun s _ _ => g6 s)⟩, g7, g8, g9⟩
  · rw [e]; exact hE
  · rw [e]; exact hA
  · rw [e]; exact g1
  · rw [e]; exact g2
  · rw [e]; exact g4
theorem gp_Dm_un {t : Nat} (h : gs_un (st t)) (s : Nat) (hs : gs_Dm b F st t s) : gs_un (st s) :=
  gs_L_i (A := fun s => gs_un (st s)) (fun c e => by rw [e]; exact h) (fun _ _ _ hr => hr.2.1) hs
theorem gp_J_ab {t : Nat} (h : gp_J b n c st so pr rf T X K lt li lk lv A F q) (h1 : 1 ≤ t) (h2 : t ≤ b) (hu : gs_un (st t)) {p : Nat → Int64} {D : Nat → Prop} (hD : D = gs_Dm b F st t) {E1 : Nat → Nat → Prop} (hE1 : E1 = gs_EA (gs_E n T X K st) D) (hp : gs_PE p E1)
    {g : (Nat → Int32) × (Nat → Int32) × Nat} (hg : g = gs_set b E1 (64 - c) (gs_abs D st b) so c) :
    ∃ q', gp_J b n g.2.2 g.1 g.2.1 p rf T X K lt li lk lv A F q' ∧ gp_st b st g.1 ∧ c ≤ g.2.2 ∧ (∀ k, k < c → q' k = q k) := by
  obtain ⟨h0, hL, hK, hv, hE, hRF, hA, hS, hQ, hG, hR, hV⟩ := h
  have hDb : ∀ j, D j → 1 ≤ j ∧ j ≤ b := by rw [hD]; exact gs_Dm_in h1 h2
  have hDu : ∀ j, D j → gs_un (st j) := by rw [hD]; exact gp_Dm_un hu
  have hDc : ∀ u w, F u w → gs_un (st u) → D w → D u := by
    intro u w hf hu hw
    rw [hD] at hw ⊢
    exact gs_L_s hw ⟨(hS.1 u w hf).1, hu, hf⟩
  have h5 := gs_abs_5 (st := st) hDb
  have hno : ∀ s, ¬ D s → gs_abs D st b s = st s := fun s hs => gs_abs_f (fun z => hs z.2.2)
  have hyes : ∀ s, D s → gs_abs D st b s = 5 := fun s hs => gs_abs_t ⟨(hDb s hs).1, (hDb s hs).2, hs⟩
  have hfin : ∀ s, gp_fin (gs_abs D st b s) → gp_fin (st s) ∧ ¬ D s := by
    intro s hs
    by_cases d : D s
    · rw [hyes s d] at hs
      exact absurd rfl (gp_fin_5 hs)
    · rw [hno s d] at hs
      exact ⟨hs, d⟩
  have hst : gp_st b st (gs_abs D st b) := by
    intro s _ _
    by_cases d : D s
    · rw [hyes s d]
      refine ⟨fun z => ?_, fun _ => rfl, fun z => absurd z (by decide)⟩
      have := hDu s d
      rw [z] at this
      exact absurd this (by unfold gs_un; decide)
    · rw [hno s d]
      exact ⟨fun z => z, fun z => z, fun z => z⟩
  have h4 : ∀ s, gs_abs D st b s = 4 ↔ st s = 4 := by
    intro s
    by_cases d : D s
    · rw [hyes s d]
      refine ⟨fun z => absurd z (by decide), fun z => ?_⟩
      have := hDu s d
      rw [z] at this
      exact absurd this (by unfold gs_un; decide)
    · rw [hno s d]
  have hS1 : gp_S b E1 F (gs_abs D st b) := by
    refine ⟨?_, ?_, ?_, ?_⟩
    · intro u w hf
      have g := hS.1 u w hf
      refine ⟨g.1, g.2.1, fun a d => ?_⟩
      rw [hE1]
      exact ⟨g.2.2 (fun z => a ((h5 w).mpr (Or.inl z))) (fun z => d ((h5 u).mpr (Or.inl z))), fun z => a ((h5 w).mpr (Or.inr z)), fun z => d ((h5 u).mpr (Or.inr z))⟩
    · intro u w hf a
      rcases (h5 w).mp a with z | z
      · exact (h5 u).mpr (Or.inl (hS.2.1 u w hf z))
      · rcases gp_bs_c (hS.2.2.2 u (hS.1 u w hf).1.1 (hS.1 u w hf).1.2) with y | y | y
        · exact (h5 u).mpr (Or.inr (hDc u w hf y z))
        · exact absurd (hDu w z) (gp_fin_un (hS.2.2.1 u w hf y))
        · exact (h5 u).mpr (Or.inl y)
    · intro u w hf a
      have g := hS.2.2.1 u w hf (hfin u a).1
      rw [hno w (fun d => gp_fin_un g (hDu w d))]
      exact g
    · intro u u1 u2
      by_cases d : D u
      · rw [hyes u d]
        exact Or.inr (Or.inr (Or.inr (Or.inr rfl)))
      · rw [hno u d]
        exact hS.2.2.2 u u1 u2
  have hQ1 : gp_Q b E1 (gs_abs D st b) so c q := by
    refine ⟨?_, ?_, hQ.2.2.1, ?_, ?_⟩
    · rw [hQ.1]
      exact gs_cnt_c (fun s _ _ => (h4 s).symm)
    · exact fun k hk => ⟨(hQ.2.1 k hk).1, (hQ.2.1 k hk).2.1, (h4 _).mpr (hQ.2.1 k hk).2.2⟩
    · exact fun u u1 u2 z => hQ.2.2.2.1 u u1 u2 ((h4 u).mp z)
    · intro k hk s hs
      rw [hE1] at hs
      exact hQ.2.2.2.2 k hk s hs.1
  have hG1 : ∀ u, 1 ≤ u → u ≤ b → ¬ gs_Go F (gs_abs D st b) u := by
    intro u u1 u2 g
    have nd : ¬ D u := fun d => by
      have := g.1
      rw [hyes u d] at this
      exact absurd this (by decide)
    have e2 : st u = 2 := by
      rw [← hno u nd]
      exact g.1
    refine hG u u1 u2 ⟨e2, fun w hf hw => ?_⟩
    refine g.2 w hf ?_
    rw [hno w (fun d => nd (hDc u w hf (Or.inr e2) d))]
    exact hw
  have hV1 := gp_V_ab hL hK hS hV hDu hDc h5 hno
  obtain ⟨q', j1, j2, j3, j4⟩ := gp_J_set (p := p) h0 hL hK hv (by rw [hE1]; exact (gp_EA hDb).symm) hp hRF (by rw [hE1]; exact gs_acm (fun s u z => z.1) hA) hS1 hQ1 hG1 hV1 hg
  exact ⟨q', j1, gp_st_t hst j2, j3, j4⟩
/-- a commit that waits for nobody -/
theorem gp_all {st1 s : Nat → Int32} {k : Nat} (hk : gs_Wy b F st1 k s) (hs : ∀ t, 1 ≤ t → t ≤ b → ¬ gs_Go F s t) (j : Nat) (hj : gs_Cm b F st1 j) : s j = 3 := by
  refine hj (fun j => s j = 3) ?_
  intro t h1 h2 ht hw
  cases hk.1 t with
  | inr e => exact e.2.2.2.2
  | inl e =>
    refine absurd ⟨e.trans ht, fun w hF hu => ?_⟩ (hs t h1 h2)
    cases hk.1 w with
    | inl e' =>
      have h3 : s w = 3 := hw w hF (e' ▸ hu)
      rw [h3] at hu
      exact absurd hu (by unfold gs_un; decide)
    | inr e' =>
      rw [e'.2.2.2.2] at hu
      exact absurd hu (by unfold gs_un; decide)
theorem gp_Cm_inv {st1 : Nat → Int32} {x : Nat} (h : gs_Cm b F st1 x) : ∀ w, F x w → gs_un (st1 w) → gs_Cm b F st1 w := by
  refine (h (fun x => gs_Cm b F st1 x ∧ ∀ w, F x w → gs_un (st1 w) → gs_Cm b F st1 w) ?_).2
  intro t h1 h2 ht hw
  exact ⟨fun A hA => hA t h1 h2 ht (fun w a d => (hw w a d).1 A hA), fun w a d => (hw w a d).1⟩
theorem gp_J_cm {t : Nat} (h : gp_J b n c st so pr rf T X K lt li lk lv A F q) (h1 : 1 ≤ t) (h2 : t ≤ b) (ht : st t = 1) (hw : ∀ w, F t w → ¬ gs_un (st w)) {k : Nat} {s : Nat → Int32} (hk : gs_Wy b F (upd st t 3) k s) (hs : ∀ t, 1 ≤ t → t ≤ b → ¬ gs_Go F s t)
    {g : (Nat → Int32) × (Nat → Int32) × Nat} (hg : g = gs_set b (gs_E n T X K st) (64 - c) s so c) :
    ∃ q', gp_J b n g.2.2 g.1 g.2.1 pr rf T X K lt li lk lv A F q' ∧ gp_st b st g.1 ∧ c ≤ g.2.2 ∧ (∀ k, k < c → q' k = q k) ∧ ¬ g.1 t = 1 := by
  obtain ⟨h0, hL, hK, hv, hE, hRF, hA, hS, hQ, hG, hR, hV⟩ := h
  have c5 : ∀ x, upd st t 3 x = 5 ↔ st x = 5 := by
    intro x
    by_cases e : x = t
    · rw [e, pk_us, ht]
      decide
    · rw [pk_un e]
  have h5 : ∀ x, s x = 5 ↔ st x = 5 := fun x => (gs_wy_ab hk x).trans (c5 x)
  have hst : s t = 3 := by
    cases hk.1 t with
    | inl e => rw [e, pk_us]
    | inr e => exact e.2.2.2.2
  have hx : ∀ x, x ≠ t → s x = st x ∨ (st x = 2 ∧ gs_Cm b F (upd st t 3) x ∧ s x = 3) := by
    intro x e
    cases hk.1 x with
    | inl z => exact Or.inl (by rw [z, pk_un e])
    | inr z => exact Or.inr ⟨by rw [← z.1, pk_un e], z.2.2.2.1, z.2.2.2.2⟩
  have h4 : ∀ x, s x = 4 ↔ st x = 4 := by
    intro x
    by_cases e : x = t
    · rw [e, hst, ht]
      decide
    · rcases hx x e with z | z
      · rw [z]
      · rw [z.2.2, z.1]
        decide
  have hf : ∀ x, gp_fin (st x) → gp_fin (s x) := by
    intro x z
    by_cases e : x = t
    · rw [e, hst]
      exact Or.inl rfl
    · rcases hx x e with y | y
      · rw [y]
        exact z
      · rw [y.2.2]
        exact Or.inl rfl
  have hS1 : gp_S b (gs_E n T X K st) F s := by
    refine ⟨?_, ?_, ?_, ?_⟩
    · intro u w hF
      have g := hS.1 u w hF
      exact ⟨g.1, g.2.1, fun a d => g.2.2 (fun z => a ((h5 w).mpr z)) (fun z => d ((h5 u).mpr z))⟩
    · exact fun u w hF a => (h5 u).mpr (hS.2.1 u w hF ((h5 w).mp a))
    · intro u w hF a
      have gw := (hS.1 u w hF).2.1
      have nof : ¬ st u = 5 := fun z => gp_fin_5 a ((h5 u).mpr z)
      have nw : ¬ st w = 5 := fun z => nof (hS.2.1 u w hF z)
      by_cases e : u = t
      · rw [e] at hF
        rcases gp_bs_c (hS.2.2.2 w gw.1 gw.2) with y | y | y
        · exact absurd y (hw w hF)
        · exact hf w y
        · exact absurd y nw
      · rcases hx u e with y | y
        · rw [y] at a
          exact hf w (hS.2.2.1 u w hF a)
        · rcases gp_bs_c (hS.2.2.2 w gw.1 gw.2) with z | z | z
          · by_cases ew : w = t
            · rw [ew, hst]
              exact Or.inl rfl
            · have cw := gp_Cm_inv y.2.1 w hF (by rw [pk_un ew]; exact z)
              rw [gp_all hk hs w cw]
              exact Or.inl rfl
          · exact hf w z
          · exact absurd z nw
    · intro u u1 u2
      by_cases e : u = t
      · rw [e, hst]
        exact Or.inr (Or.inr (Or.inl rfl))
      · rcases hx u e with y | y
        · rw [y]
          exact hS.2.2.2 u u1 u2
        · rw [y.2.2]
          exact Or.inr (Or.inr (Or.inl rfl))
  have hQ1 : gp_Q b (gs_E n T X K st) s so c q := by
    refine ⟨?_, ?_, hQ.2.2.1, ?_, hQ.2.2.2.2⟩
    · rw [hQ.1]
      exact gs_cnt_c (fun x _ _ => (h4 x).symm)
    · exact fun k hk => ⟨(hQ.2.1 k hk).1, (hQ.2.1 k hk).2.1, (h4 _).mpr (hQ.2.1 k hk).2.2⟩
    · exact fun u u1 u2 z => hQ.2.2.2.1 u u1 u2 ((h4 u).mp z)
  have hst1 : gp_st b st s := by
    intro x _ _
    refine ⟨(h4 x).mpr, (h5 x).mpr, fun z => ?_⟩
    by_cases e : x = t
    · rw [e]
      exact ht
    · rcases hx x e with y | y
      · rw [← y]
        exact z
      · rw [y.2.2] at z
        exact absurd z (by decide)
  obtain ⟨q', j1, j2, j3, j4⟩ := gp_J_set (p := pr) h0 hL hK hv (gp_Ee h5).symm hE hRF hA hS1 hQ1 hs (gp_V_mono hL hV (fun x _ _ => h5 x) (fun x _ _ => hf x)) hg
  refine ⟨q', j1, gp_st_t hst1 j2, j3, j4, fun z => ?_⟩
  have := (j2 t h1 h2).2.2 z
  rw [hst] at this
  exact absurd this (by decide)
/-- a commit that waits -/
theorem gp_J_wt {t : Nat} (h : gp_J b n c st so pr rf T X K lt li lk lv A F q) (h1 : 1 ≤ t) (h2 : t ≤ b) (ht : st t = 1) (hw : ∃ w, F t w ∧ gs_un (st w)) : gp_J b n c (upd st t 2) so pr rf T X K lt li lk lv A F q ∧ gp_st b st (upd st t 2) := by
  obtain ⟨h0, hL, hK, hv, hE, hRF, hA, hS, hQ, hG, hR, hV⟩ := h
  have c5 : ∀ x, upd st t 2 x = 5 ↔ st x = 5 := by
    intro x
    by_cases e : x = t
    · rw [e, pk_us, ht]
      decide
    · rw [pk_un e]
  have c4 : ∀ x, upd st t 2 x = 4 ↔ st x = 4 := by
    intro x
    by_cases e : x = t
    · rw [e, pk_us, ht]
      decide
    · rw [pk_un e]
  have cf : ∀ x, gp_fin (upd st t 2 x) ↔ gp_fin (st x) := by
    intro x
    by_cases e : x = t
    · rw [e, pk_us, ht]
      unfold gp_fin
      decide
    · rw [pk_un e]
  have cu : ∀ x, gs_un (upd st t 2 x) ↔ gs_un (st x) := by
    intro x
    by_cases e : x = t
    · rw [e, pk_us, ht]
      unfold gs_un
      decide
    · rw [pk_un e]
  have co : ∀ x, gs_op (upd st t 2 x) ↔ gs_op (st x) := by
    intro x
    by_cases e : x = t
    · rw [e, pk_us, ht]
      unfold gs_op
      decide
    · rw [pk_un e]
  have eE : gs_E n T X K (upd st t 2) = gs_E n T X K st := gp_Ee c5
  refine ⟨⟨h0, hL, hK, hv, ?_, hRF, ?_, ⟨?_, ?_, ?_, ?_⟩, ⟨?_, ?_, hQ.2.2.1, ?_, ?_⟩, ?_, ?_, gp_V_mono hL hV (fun x _ _ => c5 x) (fun x _ _ => (cf x).mpr)⟩, ?_⟩
  · rw [eE]; exact hE
  · rw [eE]; exact hA
  · intro u w hF
    have g := hS.1 u w hF
    rw [eE]
    exact ⟨g.1, g.2.1, fun a d => g.2.2 (fun z => a ((c5 w).mpr z)) (fun z => d ((c5 u).mpr z))⟩
  · exact fun u w hF a => (c5 u).mpr (hS.2.1 u w hF ((c5 w).mp a))
  · exact fun u w hF a => (cf w).mpr (hS.2.2.1 u w hF ((cf u).mp a))
  · intro u u1 u2
    by_cases e : u = t
    · rw [e, pk_us]
      exact Or.inr (Or.inl rfl)
    · rw [pk_un e]
      exact hS.2.2.2 u u1 u2
  · rw [hQ.1]
    exact gs_cnt_c (fun x _ _ => (c4 x).symm)
  · exact fun k hk => ⟨(hQ.2.1 k hk).1, (hQ.2.1 k hk).2.1, (c4 _).mpr (hQ.2.1 k hk).2.2⟩
  · exact fun u u1 u2 z => hQ.2.2.2.1 u u1 u2 ((c4 u).mp z)
  · rw [eE]; exact hQ.2.2.2.2
  · intro u u1 u2 g
    by_cases e : u = t
    · subst e
      obtain ⟨w, w1, w2⟩ := hw
      exact g.2 w w1 ((cu w).mpr w2)
    · have g1 := g.1
      rw [pk_un e] at g1
      exact hG u u1 u2 ⟨g1, fun w a d => g.2 w a ((cu w).mpr d)⟩
  · rw [eE]
    intro u u1 u2 g
    have g1 := g.1
    by_cases e : u = t
    · rw [e, pk_us] at g1
      exact absurd g1 (by decide)
    · rw [pk_un e] at g1
      exact hR u u1 u2 ⟨g1, fun s a d => g.2 s a ((co s).mpr d)⟩
  · intro x _ _
    refine ⟨(c4 x).mpr, (c5 x).mpr, fun z => ?_⟩
    by_cases e : x = t
    · rw [e]
      exact ht
    · rw [pk_un e] at z
      exact z
end
end
section
/-! an entry, a beginning -/
section
variable {b n c : Nat} {st so : Nat → Int32} {pr rf : Nat → Int64} {T : Nat → Nat} {X K lt li lk lv A : Nat → Int32} {F : Nat → Nat → Prop} {q : Nat → Nat}
def gp_cd (st : Nat → Int32) (k : Int32) (t w : Nat) : Prop := ¬ k &&& 1 = 0 ∧ w ≠ 0 ∧ w ≠ t ∧ gs_un (st w)
def gp_F (F : Nat → Nat → Prop) (st : Nat → Int32) (k : Int32) (t ws : Nat) (u w : Nat) : Prop := F u w ∨ (gp_cd st k t ws ∧ u = t ∧ w = ws)
theorem gp_kw {a k : Int32} (h : ¬ a &&& 2 = 0) : ¬ (a ||| k) &&& 2 = 0 := by
  intro z
  apply h
  have e : (a ||| k) &&& 2 = (a &&& 2) ||| (k &&& 2) := by
    apply Int32.toBitVec_inj.mp
    rw [Int32.toBitVec_and, Int32.toBitVec_or, Int32.toBitVec_or, Int32.toBitVec_and, Int32.toBitVec_and]
    apply BitVec.eq_of_getLsbD_eq
    intro i hi
    rw [BitVec.getLsbD_and, BitVec.getLsbD_or, BitVec.getLsbD_or, BitVec.getLsbD_and, BitVec.getLsbD_and, Bool.and_or_distrib_right]
  rw [e] at z
  apply Int32.toBitVec_inj.mp
  apply BitVec.eq_of_getLsbD_eq
  intro i hi
  have z' := congrArg (fun y => (Int32.toBitVec y).getLsbD i) z
  simp only [Int32.toBitVec_or, BitVec.getLsbD_or] at z'
  have z0 : (0 : Int32).toBitVec.getLsbD i = false := by
    rw [show (0 : Int32).toBitVec = 0#32 from rfl, BitVec.getLsbD_zero]
  rw [z0] at z' ⊢
  cases q : (a &&& 2).toBitVec.getLsbD i with
  | false => rfl
  | true => rw [q] at z'; exact absurd z' (by simp)
theorem gp_J_op {t ws : Nat} {x k a v : Int32} {m : Int64} {r : Nat → Int64} (h : gp_J b n c st so pr rf T X K lt li lk lv A F q) (hn : n < 128) (h1 : 1 ≤ t) (h2 : t ≤ b) (ht : st t = 1) (hk : k = 1 ∨ k = 2 ∨ k = 3)
    (hm : ∀ s, gs_m m s ↔ gs_Cf n T X K st t x k s) (hcy : ¬ gs_Bk (gs_Cf n T X K st t x k) (gs_E n T X K st) t) (hws : ws = gs_wrt T (gs_lst (gs_Wr T X K st x) n)) (hr : (¬ k &&& 1 = 0 ∧ gs_rfN st rf t ws r) ∨ (k &&& 1 = 0 ∧ r = rf))
    (hv : v = gp_ap k a (gs_val 0 lv (gs_lst (gs_Wr T X K st x) n))) (hv' : ∃ y, y < 1000 ∧ v = nI y) :
    gp_J b (n + 1) c st so (vp_updL pr t (pr t ||| m)) r (gs_apN T n t) (upd X n x) (upd K n k) (upd lt n (nI t)) (upd li n x) (upd lk n k) (upd lv n v) (upd A n a) (gp_F F st k t ws) q := by
  obtain ⟨h0, hL, hK, hvv, hE, hRF, hA, hS, hQ, hG, hR, hV⟩ := h
  have t5 : ¬ st t = 5 := by rw [ht]; decide
  have eE := gs_E_app (X := X) (K := K) (n := n) (T := T) (x := x) (k := k) (t := t) t5
  have wf : gp_cd st k t ws → (1 ≤ ws ∧ ws ≤ b) ∧ gs_Cf n T X K st t x k ws := by
    intro cd
    cases e : gs_lst (gs_Wr T X K st x) n with
    | zero =>
      rw [e] at hws
      exact absurd hws cd.2.1
    | succ i =>
      rw [e] at hws
      have hws : ws = T i := hws
      have g := gs_lst_in e
      have l := hL i g.1
      rw [hws]
      refine ⟨⟨l.2.1, l.2.2.1⟩, i, g.1, rfl, ?_, g.2.1.1, gp_kw g.2.1.2, g.2.2⟩
      rw [← hws]
      exact cd.2.2.1
  have hE2 := gs_PE_app hE t5 h1 (by omega) hm
  have hA2 := gs_acy eE hA hcy
  have hRF2 : gs_RF r (gp_F F st k t ws) := by
    intro u u1 u2 s
    unfold gp_F
    by_cases cd : gp_cd st k t ws
    · have er : r = vp_updL rf t (rf t ||| gs_bit ws) := by
        rcases hr with ⟨_, hr | hr⟩ | ⟨z, _⟩
        · exact absurd cd.2 hr.1
        · exact hr.2
        · exact absurd z cd.1
      rw [er]
      by_cases e : u = t
      · subst e
        rw [pk_uLs, gs_m_or, hRF u u1 u2 s, gs_m_bit (wf cd).1.1 (by have := (wf cd).1.2; omega)]
        exact ⟨fun z => z.elim Or.inl (fun y => Or.inr ⟨cd, rfl, y⟩), fun z => z.elim Or.inl (fun y => Or.inr y.2.2)⟩
      · rw [pk_uLn e, hRF u u1 u2 s]
        exact ⟨Or.inl, fun z => z.elim (fun y => y) (fun y => absurd y.2.1 e)⟩
    · have er : r = rf := by
        rcases hr with ⟨z, hr | hr⟩ | ⟨_, z⟩
        · exact hr.2
        · exact absurd ⟨z, hr.1⟩ cd
        · exact z
      rw [er, hRF u u1 u2 s]
      exact ⟨Or.inl, fun z => z.elim (fun y => y) (fun y => absurd y.1 cd)⟩
  refine ⟨⟨h0.1, by omega, h0.2.2⟩, gs_Lg_app hL h1 h2, ?_, ?_, hE2, hRF2, hA2, ⟨?_, ?_, ?_, hS.2.2.2⟩, ⟨hQ.1, hQ.2.1, hQ.2.2.1, hQ.2.2.2.1, ?_⟩, ?_, ?_, ?_⟩
  · intro j hj
    by_cases e : j = n
    · rw [e, pk_us]
      exact hk
    · rw [pk_un e]
      exact hK j (by omega)
  · intro j hj
    by_cases e : j = n
    · rw [e, pk_us]
      exact hv'
    · rw [pk_un e]
      exact hvv j (by omega)
  · rintro u w (z | ⟨cd, rfl, rfl⟩)
    · have g := hS.1 u w z
      exact ⟨g.1, g.2.1, fun a d => (eE w u).mpr (Or.inl (g.2.2 a d))⟩
    · exact ⟨⟨h1, h2⟩, (wf cd).1, fun _ _ => (eE _ _).mpr (Or.inr ⟨rfl, (wf cd).2⟩)⟩
  · rintro u w (z | ⟨cd, rfl, rfl⟩) a
    · exact hS.2.1 u w z a
    · exact absurd a (gp_un_5 cd.2.2.2)
  · rintro u w (z | ⟨cd, rfl, rfl⟩) a
    · exact hS.2.2.1 u w z a
    · rw [ht] at a
      exact absurd a (by unfold gp_fin; decide)
  · intro kk hkk s hs
    rcases (eE s (q kk)).mp hs with z | z
    · exact hQ.2.2.2.2 kk hkk s z
    · have g := (hQ.2.1 kk hkk).2.2
      rw [z.1, ht] at g
      exact absurd g (by decide)
  · intro u u1 u2 g
    exact hG u u1 u2 ⟨g.1, fun w hw => g.2 w (Or.inl hw)⟩
  · intro u u1 u2 g
    exact hR u u1 u2 ⟨g.1, fun s hs => g.2 s ((eE s u).mpr (Or.inl hs))⟩
  · refine gp_V_app hL hS hV hv (fun u w z => Or.inl z) (fun hk i hi => ?_)
    rw [hi] at hws
    have hws : ws = T i := hws
    have g := gs_lst_in hi
    have l := hL i g.1
    by_cases e : T i = t
    · exact Or.inl e
    · rcases gp_bs_c (hS.2.2.2 (T i) l.2.1 l.2.2.1) with y | y | y
      · refine Or.inr (Or.inl (Or.inr ⟨⟨hk, ?_, ?_, ?_⟩, rfl, hws.symm⟩))
        · rw [hws]; omega
        · rw [hws]; exact e
        · rw [hws]; exact y
      · exact Or.inr (Or.inr y)
      · exact absurd y g.2.2
theorem gp_J_bg (h : gp_J b n c st so pr rf T X K lt li lk lv A F q) (hb : b + 1 < 64) : gp_J (b + 1) n c (upd st (b + 1) 1) so pr rf T X K lt li lk lv A F q := by
  obtain ⟨h0, hL, hK, hv, hE, hRF, hA, hS, hQ, hG, hR, hV⟩ := h
  have un : ∀ s, s ≤ b → upd st (b + 1) 1 s = st s := fun s hs => pk_un (by omega)
  have eE : gs_E n T X K (upd st (b + 1) 1) = gs_E n T X K st := by
    funext s t
    apply propext
    unfold gs_E gs_Ed
    constructor
    · rintro ⟨i, j, a, d, e, e', e1, e2, e3, e4, e5⟩
      rw [un _ (hL i (by omega)).2.2.1] at e4
      rw [un _ (hL j d).2.2.1] at e5
      exact ⟨i, j, a, d, e, e', e1, e2, e3, e4, e5⟩
    · rintro ⟨i, j, a, d, e, e', e1, e2, e3, e4, e5⟩
      refine ⟨i, j, a, d, e, e', e1, e2, e3, ?_, ?_⟩
      · rw [un _ (hL i (by omega)).2.2.1]; exact e4
      · rw [un _ (hL j d).2.2.1]; exact e5
  refine ⟨⟨hb, h0.2⟩, gs_Lg_b hL, hK, hv, ?_, hRF, ?_, ⟨?_, ?_, ?_, ?_⟩, ⟨?_, ?_, hQ.2.2.1, ?_, ?_⟩, ?_, ?_, ?_⟩
  · rw [eE]; exact hE
  · rw [eE]; exact hA
  · intro u w z
    have g := hS.1 u w z
    rw [eE, un u g.1.2, un w g.2.1.2]
    exact ⟨⟨g.1.1, by omega⟩, ⟨g.2.1.1, by omega⟩, g.2.2⟩
  · intro u w z
    have g := hS.1 u w z
    rw [un u g.1.2, un w g.2.1.2]
    exact hS.2.1 u w z
  · intro u w z
    have g := hS.1 u w z
    rw [un u g.1.2, un w g.2.1.2]
    exact hS.2.2.1 u w z
  · intro u u1 u2
    by_cases e : u = b + 1
    · rw [e, pk_us]
      exact Or.inl rfl
    · rw [pk_un e]
      exact hS.2.2.2 u u1 (by omega)
  · rw [gs_cnt_f (by rw [pk_us]; decide), hQ.1]
    exact gs_cnt_c (fun s _ hs => by rw [un s hs])
  · intro k hk
    have g := hQ.2.1 k hk
    rw [un _ g.2.1.2]
    exact ⟨g.1, ⟨g.2.1.1, by omega⟩, g.2.2⟩
  · intro u u1 u2 z
    by_cases e : u = b + 1
    · rw [e, pk_us] at z
      exact absurd z (by decide)
    · rw [pk_un e] at z
      exact hQ.2.2.2.1 u u1 (by omega) z
  · rw [eE]; exact hQ.2.2.2.2
  · intro u u1 u2 g
    have g1 := g.1
    by_cases e : u = b + 1
    · rw [e, pk_us] at g1
      exact absurd g1 (by decide)
    · rw [pk_un e] at g1
      refine hG u u1 (by omega) ⟨g1, fun w z => ?_⟩
      have g2 := g.2 w z
      rw [un w (hS.1 u w z).2.1.2] at g2
      exact g2
  · rw [eE]
    intro u u1 u2 g
    have g1 := g.1
    by_cases e : u = b + 1
    · rw [e, pk_us] at g1
      exact absurd g1 (by decide)
    · rw [pk_un e] at g1
      refine hR u u1 (by omega) ⟨g1, fun s z => ?_⟩
      have g2 := g.2 s z
      rw [un s (gs_E_in hL z).1.2] at g2
      exact g2
  · exact gp_V_mono hL hV (fun s _ hs => by rw [un s hs]) (fun s _ hs z => by rw [un s hs]; exact z)
/-! no active one: all are finished -/
theorem gp_wf {E : Nat → Nat → Prop} (hE : ∀ s t, E s t → 1 ≤ s ∧ s ≤ b) (hA : ∀ z, ¬ gs_Pl E z z) (W : Nat → Prop) (hW : ∀ t, W t → ∃ s, W s ∧ E s t) : ∀ m t, gs_cnt (fun s => gs_Pl E s t) b ≤ m → ¬ W t := by
  intro m
  induction m with
  | zero =>
    intro t ht hw
    obtain ⟨s, _, e⟩ := hW t hw
    have hs := hE s t e
    exact gs_cnt_none (A := fun s => gs_Pl E s t) (by omega) s hs.1 hs.2 (gs_L_b e)
  | succ m ih =>
    intro t ht hw
    obtain ⟨s, ws, e⟩ := hW t hw
    have hs := hE s t e
    have lt := gs_cnt_lt (A := fun z => gs_Pl E z s) (B := fun z => gs_Pl E z t) (fun z h => gs_L_s h e) (s := s) (gs_L_b e) (hA s) (m := b) hs.1 hs.2
    exact ih s (by omega) ws
theorem gp_done (h : gp_J b n c st so pr rf T X K lt li lk lv A F q) (hn : ∀ t, 1 ≤ t → t ≤ b → ¬ st t = 1) (t : Nat) (h1 : 1 ≤ t) (h2 : t ≤ b) : st t = 4 ∨ st t = 5 := by
  obtain ⟨h0, hL, hK, hv, hE, hRF, hA, hS, hQ, hG, hR, hV⟩ := h
  have key := gp_wf (b := b) (fun s t z => (gs_E_in hL z).1) hA (fun t => (1 ≤ t ∧ t ≤ b) ∧ (st t = 2 ∨ st t = 3)) (by
    rintro t ⟨tb, z | z⟩
    · have g := hG t tb.1 tb.2
      have hx : ∃ w, F t w ∧ gs_un (st w) := Classical.byContradiction fun y => g ⟨z, fun w a d => y ⟨w, a, d⟩⟩
      obtain ⟨w, a, d⟩ := hx
      have f := hS.1 t w a
      exact ⟨w, ⟨f.2.1, Or.inl (d.resolve_left (hn w f.2.1.1 f.2.1.2))⟩, f.2.2 (gp_un_5 d) (by rw [z]; decide)⟩
    · have g := hR t tb.1 tb.2
      have hx : ∃ s, gs_E n T X K st s t ∧ gs_op (st s) := Classical.byContradiction fun y => g ⟨z, fun s a d => y ⟨s, a, d⟩⟩
      obtain ⟨s, a, d⟩ := hx
      have sb := (gs_E_in hL a).1
      refine ⟨s, ⟨sb, ?_⟩, a⟩
      rcases d with d | d | d
      · exact absurd d (hn s sb.1 sb.2)
      · exact Or.inl d
      · exact Or.inr d)
  have no := key _ t (Nat.le_refl _)
  rcases hS.2.2.2 t h1 h2 with z | z | z | z | z
  · exact absurd z (hn t h1 h2)
  · exact absurd ⟨⟨h1, h2⟩, Or.inl z⟩ no
  · exact absurd ⟨⟨h1, h2⟩, Or.inr z⟩ no
  · exact Or.inl z
  · exact Or.inr z
end
end
section
/-! the calls, against the invariants -/
theorem gs_tn {t : Int32} {b j : Nat} (hb : b ≤ 64) (h : t < 1 ∨ (¬ t < 1 ∧ ¬ t ≤ nI b)) (h1 : 1 ≤ j) (h2 : j ≤ b) : ¬ t = nI j := by
  intro e
  rw [e] at h
  rcases h with h | h
  · have := (nI_ltI (b := 1) (by omega) (by omega)).mp h
    omega
  · exact h.2 (nI_le h2 (by omega))
section
variable {sl it : Int32} {b n c : Nat} {st : Nat → Int32} {pr rf : Nat → Int64} {lt li lk lv so : Nat → Int32} {T : Nat → Nat} {X K A : Nat → Int32} {F : Nat → Nat → Prop} {q : Nat → Nat}
theorem gx_commit {post : Int32 → St2 → Prop} {t : Int32} (h : gp_J b n c st so pr rf T X K lt li lk lv A F q)
    (hp : ∀ r c' st' so' q', gp_J b n c' st' so' pr rf T X K lt li lk lv A F q' → gp_st b st st' → c ≤ c' → (∀ k, k < c → q' k = q k) → (∀ j, 1 ≤ j → j ≤ b → t = nI j → ¬ st' j = 1) → post r (sl, it, nI b, nI n, nI c', st', pr, rf, lt, li, lk, lv, so')) : wpX_commit post (sl, it, nI b, nI n, nI c, st, pr, rf, lt, li, lk, lv, so) t := by
  have h' := h
  obtain ⟨h0, hL, hK, hv, hE, hRF, hA, hS, hQ, hG, hR, hV⟩ := h
  rcases gs_tc t (show b ≤ 64 by omega) with ⟨j, h1, h2, rfl⟩ | ht
  · have hj : ∀ j', j' ≤ b → nI j = nI j' → j = j' := fun j' a e => (nI_eq (by omega) (by omega)).mp e
    refine xo_commit (by omega) h0.2.2 hE (gp_Eb hL) hRF (fun t w z => (hS.1 t w z).2.1) h1 h2 (fun e => ?_) (fun e z => ?_) (fun e z m s hm hs => ?_)
    · exact hp _ c st so q h' (gp_st_r b st) (Nat.le_refl c) (fun _ _ => rfl) (fun j' _ a e' => by rw [← hj j' a e']; exact e)
    · obtain ⟨g1, g2⟩ := gp_J_wt h' h1 h2 e z
      exact hp _ c _ so q g1 g2 (Nat.le_refl c) (fun _ _ => rfl) (fun j' _ a e' => by rw [← hj j' a e', pk_us]; decide)
    · obtain ⟨q', g1, g2, g3, g4, g5⟩ := gp_J_cm h' h1 h2 e z hm hs rfl
      exact hp _ _ _ _ q' g1 g2 g3 g4 (fun j' _ a e' => by rw [← hj j' a e']; exact g5)
  · unfold wpX_commit
    dsimp only
    exact xo_begun0 ht (br_t rfl (hp _ c st so q h' (gp_st_r b st) (Nat.le_refl c) (fun _ _ => rfl) (fun j a d e => absurd e (gs_tn (by omega) ht a d))))
theorem gx_abort {post : Int32 → St2 → Prop} {t : Int32} (h : gp_J b n c st so pr rf T X K lt li lk lv A F q)
    (hp : ∀ r c' st' so' p' q', gp_J b n c' st' so' p' rf T X K lt li lk lv A F q' → gp_st b st st' → c ≤ c' → (∀ k, k < c → q' k = q k) → post r (sl, it, nI b, nI n, nI c', st', p', rf, lt, li, lk, lv, so')) : wpX_abort post (sl, it, nI b, nI n, nI c, st, pr, rf, lt, li, lk, lv, so) t := by
  have h' := h
  obtain ⟨h0, hL, hK, hv, hE, hRF, hA, hS, hQ, hG, hR, hV⟩ := h
  unfold wpX_abort
  dsimp only
  rcases gs_tc t (show b ≤ 64 by omega) with ⟨j, h1, h2, rfl⟩ | ht
  · refine xo_begun1 h1 h2 (by omega) (br_f (by decide) (xo_isUnf (by omega) (fun e => br_f (by decide) ?_) (fun e => br_t rfl ?_)))
    · refine xo_abort (by omega) h0.2.2 hE (gp_Eb hL) hRF h1 h2 rfl rfl rfl (fun p hp' => ?_)
      obtain ⟨q', g1, g2, g3, g4⟩ := gp_J_ab h' h1 h2 e rfl rfl hp' rfl
      exact hp _ _ _ _ p q' g1 g2 g3 g4
    · exact hp _ c st so pr q h' (gp_st_r b st) (Nat.le_refl c) (fun _ _ => rfl)
  · exact xo_begun0 ht (br_t rfl (hp _ c st so pr q h' (gp_st_r b st) (Nat.le_refl c) (fun _ _ => rfl)))
theorem gp_ref_neg (t x v : Int32) (hb : b ≤ 64) (h : ¬ gs_ref b n it st t x v = 0) : gs_ref b n it st t x v < 0 := by
  rcases gs_ref_c (n := n) (it := it) (st := st) t x v hb with ⟨_, e⟩ | ⟨j, j1, j2, ej, h'⟩
  · rw [e]; decide
  · rcases h' with ⟨_, e⟩ | ⟨hs, ⟨_, e⟩ | ⟨x0, x1, ⟨_, e⟩ | ⟨v0, v1, ⟨_, e⟩ | ⟨hn, e⟩⟩⟩⟩
    · rw [e]; decide
    · rw [e]; decide
    · rw [e]; decide
    · rw [e]; decide
    · exact absurd e h
theorem gp_ref_go (t x v : Int32) (hb : b ≤ 64) (h0 : gs_ref b n it st t x v = 0) : ∃ j, 1 ≤ j ∧ j ≤ b ∧ t = nI j ∧ st j = 1 ∧ n < 128 := by
  rcases gs_ref_c (n := n) (it := it) (st := st) t x v hb with ⟨_, e⟩ | ⟨j, j1, j2, ej, h⟩
  · rw [h0] at e
    exact absurd e (by decide)
  · refine ⟨j, j1, j2, ej, ?_⟩
    rcases h with ⟨_, e⟩ | ⟨hs, ⟨_, e⟩ | ⟨x0, x1, ⟨_, e⟩ | ⟨v0, v1, ⟨_, e⟩ | ⟨hn, _⟩⟩⟩⟩
    · rw [h0] at e
      exact absurd e (by decide)
    · rw [h0] at e
      exact absurd e (by decide)
    · rw [h0] at e
      exact absurd e (by decide)
    · rw [h0] at e
      exact absurd e (by decide)
    · exact ⟨hs, hn⟩
theorem gp_cv {P : Nat → Prop} (hv : ∀ j, j < n → ∃ v, v < 1000 ∧ lv j = nI v) : ∃ y, y < 1000 ∧ gs_val 0 lv (gs_lst P n) = nI y := by
  cases e : gs_lst P n with
  | zero => exact ⟨0, by omega, rfl⟩
  | succ i => exact hv i (gs_lst_in e).1
theorem gp_ap3 {y z : Nat} (hy : y < 1000) (hz : z < 1000) : gp_ap 3 (nI z) (nI y) = nI ((y + z) % 1000) := by
  unfold gp_ap
  rw [if_neg (by decide), if_neg (by decide), nI_add]
  exact pk_rem (d := 1000) (by omega) (by omega) (by omega)
theorem gx_read {post : Int32 → St2 → Prop} {t x : Int32} (h : gp_J b n c st so pr rf T X K lt li lk lv A F q)
    (hp0 : ∀ r c' st' so' p' q', r < 0 → gp_J b n c' st' so' p' rf T X K lt li lk lv A F q' → gp_st b st st' → c ≤ c' → (∀ k, k < c → q' k = q k) → post r (sl, it, nI b, nI n, nI c', st', p', rf, lt, li, lk, lv, so'))
    (hp1 : ∀ j p' r', 1 ≤ j → j ≤ b → t = nI j → st j = 1 → n < 128 → ∀ y, y < 1000 → gs_val 0 lv (gs_lst (gs_Wr T X K st x) n) = nI y → gp_J b (n + 1) c st so p' r' (gs_apN T n j) (upd X n x) (upd K n 1) (upd lt n (nI j)) (upd li n x) (upd lk n 1) (upd lv n (nI y)) (upd A n 0) (gp_F F st 1 j (gs_wrt T (gs_lst (gs_Wr T X K st x) n))) q →
      post (nI y) (sl, it, nI b, nI (n + 1), nI c, st, p', r', upd lt n (nI j), upd li n x, upd lk n 1, upd lv n (nI y), so)) : wpX_read post (sl, it, nI b, nI n, nI c, st, pr, rf, lt, li, lk, lv, so) t x := by
  have h' := h
  obtain ⟨h0, hL, hK, hv, hE, hRF, hA, hS, hQ, hG, hR, hV⟩ := h
  by_cases hr : gs_ref b n it st t x 0 = 0
  · obtain ⟨j, h1, h2, rfl, hs, hn⟩ := gp_ref_go t x 0 (by omega) hr
    refine xp_read (by omega) h0.2.2 hn hL hE (gp_Eb hL) hRF h1 h2 hr rfl rfl rfl (fun hc p hp => ?_) (fun hc w hw r hrf => ?_)
    · obtain ⟨q', g1, g2, g3, g4⟩ := gp_J_ab h' h1 h2 (Or.inl hs) rfl rfl hp rfl
      exact hp0 _ _ _ _ p q' (by decide) g1 g2 g3 g4
    · obtain ⟨y, y1, y2⟩ := gp_cv (lv := lv) (P := gs_Wr T X K st x) hv
      have g := gp_J_op (a := 0) (v := nI y) h' hn h1 h2 hs (Or.inl rfl) hw hc rfl (Or.inl ⟨by decide, hrf⟩) (by unfold gp_ap; rw [if_pos rfl, y2]) ⟨y, y1, rfl⟩
      rw [y2]
      exact hp1 j _ r h1 h2 rfl hs hn y y1 y2 g
  · exact xp_read0 (by omega) (by omega) hr (hp0 _ c st so pr q (gp_ref_neg t x 0 (by omega) hr) h' (gp_st_r b st) (Nat.le_refl c) (fun _ _ => rfl))
theorem gx_write {post : Int32 → St2 → Prop} {t x : Int32} {z : Nat} (hz : z < 1000) (h : gp_J b n c st so pr rf T X K lt li lk lv A F q)
    (hp0 : ∀ r c' st' so' p' q', r < 0 → gp_J b n c' st' so' p' rf T X K lt li lk lv A F q' → gp_st b st st' → c ≤ c' → (∀ k, k < c → q' k = q k) → post r (sl, it, nI b, nI n, nI c', st', p', rf, lt, li, lk, lv, so'))
    (hp1 : ∀ j p' r', 1 ≤ j → j ≤ b → t = nI j → st j = 1 → n < 128 → gp_J b (n + 1) c st so p' r' (gs_apN T n j) (upd X n x) (upd K n 2) (upd lt n (nI j)) (upd li n x) (upd lk n 2) (upd lv n (nI z)) (upd A n (nI z)) (gp_F F st 2 j (gs_wrt T (gs_lst (gs_Wr T X K st x) n))) q →
      post 0 (sl, it, nI b, nI (n + 1), nI c, st, p', r', upd lt n (nI j), upd li n x, upd lk n 2, upd lv n (nI z), so)) : wpX_write post (sl, it, nI b, nI n, nI c, st, pr, rf, lt, li, lk, lv, so) t x (nI z) := by
  have h' := h
  obtain ⟨h0, hL, hK, hv, hE, hRF, hA, hS, hQ, hG, hR, hV⟩ := h
  by_cases hr : gs_ref b n it st t x (nI z) = 0
  · obtain ⟨j, h1, h2, rfl, hs, hn⟩ := gp_ref_go t x (nI z) (by omega) hr
    refine xp_write (by omega) h0.2.2 hn hL hE (gp_Eb hL) hRF h1 h2 hr rfl rfl rfl (fun hc p hp => ?_) (fun hc w hw => ?_)
    · obtain ⟨q', g1, g2, g3, g4⟩ := gp_J_ab h' h1 h2 (Or.inl hs) rfl rfl hp rfl
      exact hp0 _ _ _ _ p q' (by decide) g1 g2 g3 g4
    · have g := gp_J_op (a := nI z) (v := nI z) h' hn h1 h2 hs (Or.inr (Or.inl rfl)) hw hc rfl (Or.inr ⟨by decide, rfl⟩) (by unfold gp_ap; rw [if_neg (by decide), if_pos rfl]) ⟨z, hz, rfl⟩
      exact hp1 j _ rf h1 h2 rfl hs hn g
  · exact xp_write0 (by omega) (by omega) hr (hp0 _ c st so pr q (gp_ref_neg t x (nI z) (by omega) hr) h' (gp_st_r b st) (Nat.le_refl c) (fun _ _ => rfl))
theorem gx_add {post : Int32 → St2 → Prop} {t x : Int32} {z : Nat} (hz : z < 1000) (h : gp_J b n c st so pr rf T X K lt li lk lv A F q)
    (hp0 : ∀ r c' st' so' p' q', r < 0 → gp_J b n c' st' so' p' rf T X K lt li lk lv A F q' → gp_st b st st' → c ≤ c' → (∀ k, k < c → q' k = q k) → post r (sl, it, nI b, nI n, nI c', st', p', rf, lt, li, lk, lv, so'))
    (hp1 : ∀ j p' r', 1 ≤ j → j ≤ b → t = nI j → st j = 1 → n < 128 → ∀ y, y < 1000 → gp_J b (n + 1) c st so p' r' (gs_apN T n j) (upd X n x) (upd K n 3) (upd lt n (nI j)) (upd li n x) (upd lk n 3) (upd lv n (nI y)) (upd A n (nI z)) (gp_F F st 3 j (gs_wrt T (gs_lst (gs_Wr T X K st x) n))) q →
      post (nI y) (sl, it, nI b, nI (n + 1), nI c, st, p', r', upd lt n (nI j), upd li n x, upd lk n 3, upd lv n (nI y), so)) : wpX_add post (sl, it, nI b, nI n, nI c, st, pr, rf, lt, li, lk, lv, so) t x (nI z) := by
  have h' := h
  obtain ⟨h0, hL, hK, hv, hE, hRF, hA, hS, hQ, hG, hR, hV⟩ := h
  by_cases hr : gs_ref b n it st t x (nI z) = 0
  · obtain ⟨j, h1, h2, rfl, hs, hn⟩ := gp_ref_go t x (nI z) (by omega) hr
    obtain ⟨y, y1, y2⟩ := gp_cv (lv := lv) (P := gs_Wr T X K st x) hv
    have e3 := gp_ap3 y1 hz
    have ea : nI ((y + z) % 1000) = (gs_val 0 lv (gs_lst (gs_Wr T X K st x) n) + nI z) - (gs_val 0 lv (gs_lst (gs_Wr T X K st x) n) + nI z) / 1000 * 1000 := by
      rw [y2, ← e3]
      unfold gp_ap
      rw [if_neg (by decide), if_neg (by decide)]
    refine xp_add (by omega) h0.2.2 hn hL hE (gp_Eb hL) hRF h1 h2 hr rfl rfl rfl ea (fun hc p hp => ?_) (fun hc w hw r hrf => ?_)
    · obtain ⟨q', g1, g2, g3, g4⟩ := gp_J_ab h' h1 h2 (Or.inl hs) rfl rfl hp rfl
      exact hp0 _ _ _ _ p q' (by decide) g1 g2 g3 g4
    · have g := gp_J_op (a := nI z) (v := nI ((y + z) % 1000)) h' hn h1 h2 hs (Or.inr (Or.inr rfl)) hw hc rfl (Or.inl ⟨by decide, hrf⟩) (by rw [y2, e3]) ⟨(y + z) % 1000, Nat.mod_lt _ (by omega), rfl⟩
      exact hp1 j _ r h1 h2 rfl hs hn _ (Nat.mod_lt _ (by omega)) g
  · exact xp_add0 (by omega) (by omega) hr (hp0 _ c st so pr q (gp_ref_neg t x (nI z) (by omega) hr) h' (gp_st_r b st) (Nat.le_refl c) (fun _ _ => rfl))
theorem gx_begin {post : Int32 → St2 → Prop} (hb : b + 1 < 64) (hsl : sl = nI 16) (hc : gs_cnt (fun t => gs_op (st t)) b < 16) (p1 : post (nI (b + 1)) (sl, it, nI (b + 1), nI n, nI c, upd st (b + 1) 1, pr, rf, lt, li, lk, lv, so)) : wpX_begin post (sl, it, nI b, nI n, nI c, st, pr, rf, lt, li, lk, lv, so) := by
  unfold wpX_begin
  dsimp only
  refine pk_lt b 64 (fun _ => ?_) (fun h => absurd h (by omega))
  refine xo_countOpen (by omega) (br_t ?_ ?_)
  · rw [hsl]
    exact nI_lt hc (by omega)
  · exact nm_r (nI_1 b) ⟨vp_in_nI (by omega) (by omega), nm_r (e' := upd st (b + 1) 1) (by rw [nI_clamp (show b + 1 < 2 ^ 31 by omega)]) p1⟩
theorem gx_status {post : Int32 → Prop} {j : Nat} (hb : b ≤ 64) (hj : j < 2 ^ 30) (p1 : 1 ≤ j → j ≤ b → post (st j)) (p0 : j = 0 ∨ b < j → post 0) : wpX_status post (sl, it, nI b, nI n, nI c, st, pr, rf, lt, li, lk, lv, so) (nI j) := by
  unfold wpX_status
  dsimp only
  by_cases h : 1 ≤ j ∧ j ≤ b
  · refine xo_begun1 h.1 h.2 hb (br_f (by decide) ⟨vp_in_nI (by omega) (by omega), ?_⟩)
    rw [nI_clamp (show j < 2 ^ 31 by omega)]
    exact p1 h.1 h.2
  · refine xo_begun0 ?_ (br_t rfl (p0 (by omega)))
    by_cases h0 : j = 0
    · rw [h0]
      exact Or.inl (by decide)
    · refine Or.inr ⟨fun z => ?_, fun z => ?_⟩
      · have := (nI_ltI (b := 1) (by omega) (by omega)).mp z
        omega
      · have := (nI_leI (by omega) (by omega)).mp z
        omega
theorem gx_settledAt {post : Int32 → Prop} {k : Nat} (hc : c ≤ 64) (hk : k < 2 ^ 30) (p1 : k < c → post (so k)) (p0 : c ≤ k → post 0) : wpX_settledAt post (sl, it, nI b, nI n, nI c, st, pr, rf, lt, li, lk, lv, so) (nI k) := by
  unfold wpX_settledAt
  dsimp only
  refine br_f (nI_pos (by omega)) (pk_le c k (fun h => p0 h) (fun h => ⟨vp_in_nI (by omega) (by omega), ?_⟩))
  rw [nI_clamp (show k < 2 ^ 31 by omega)]
  exact p1 h
theorem gx_value {post : Int32 → Prop} {x y : Nat} (hL : gs_Lg n b T X K lt li lk) (hn : n ≤ 128) (hb : b ≤ 64) (hi : it = nI y) (hx : x < y) (hy : y ≤ 8) (hp : post (gs_val 0 lv (gs_lst (gs_Wr T X K st (nI x)) n))) : wpX_value post (sl, it, nI b, nI n, nI c, st, pr, rf, lt, li, lk, lv, so) (nI x) := by
  unfold wpX_value
  dsimp only
  refine xo_item1 (nI_pos (by omega)) (by rw [hi]; exact nI_lt hx (by omega)) (br_f (by decide) (xl_cur hL hn hb hp))
theorem gx_settledValue {post : Int32 → Prop} {x y : Nat} (hL : gs_Lg n b T X K lt li lk) (hn : n ≤ 128) (hb : b ≤ 64) (hi : it = nI y) (hx : x < y) (hy : y ≤ 8) (hp : post (gs_val 0 lv (gs_lst (gs_Ws T X K st (nI x)) n))) : wpX_settledValue post (sl, it, nI b, nI n, nI c, st, pr, rf, lt, li, lk, lv, so) (nI x) :=
  xp_settledValue hL hn hb (nI_pos (by omega)) (by rw [hi]; exact nI_lt hx (by omega)) hp
theorem gx_writer {post : Int32 → Prop} {x y w : Nat} (hL : gs_Lg n b T X K lt li lk) (hn : n ≤ 128) (hb : b ≤ 64) (hi : it = nI y) (hx : x < y) (hy : y ≤ 8) (hw : w = gs_wrt T (gs_lst (gs_Wr T X K st (nI x)) n))
    (p1 : (1 ≤ w ∧ w ≤ b) → gs_op (st w) → post (nI w)) (p0 : (w = 0 ∨ ¬ gs_op (st w)) → post 0) : wpX_writer post (sl, it, nI b, nI n, nI c, st, pr, rf, lt, li, lk, lv, so) (nI x) := by
  have hwb := gs_wrt_in (P := gs_Wr T X K st (nI x)) hL
  rw [← hw] at hwb
  unfold wpX_writer
  dsimp only
  refine xo_item1 (nI_pos (by omega)) (by rw [hi]; exact nI_lt hx (by omega)) (br_f (by decide) (xl_lastWriter hL hn hb ?_))
  rw [← hw]
  refine pk_eq w 0 (fun e => p0 (Or.inl e)) (fun e => ?_)
  exact xo_isOpen (by omega) (fun o => br_f (by decide) (p1 (hwb.resolve_left e) o)) (fun o => br_t rfl (p0 (Or.inr o)))
end
end
section
/-! fields of a long -/
def gp_fd (w : Int64) (s l : Nat) : Nat := w.toBitVec.toNat / 2 ^ s % 2 ^ l
theorem gp_fd_lt (w : Int64) (s l : Nat) : gp_fd w s l < 2 ^ l := Nat.mod_lt _ (Nat.two_pow_pos l)
theorem gp_fd_tb (w : Int64) (s l i : Nat) : (gp_fd w s l).testBit i = (decide (i < l) && w.toBitVec.getLsbD (i + s)) := by
  unfold gp_fd
  rw [Nat.testBit_mod_two_pow, Nat.testBit_div_two_pow]
  rfl
def gp_put (w : Int64) (s l r : Nat) : Int64 := (w &&& (lN ((2 ^ l - 1) * 2 ^ s) ^^^ (-1))) ||| lN (r * 2 ^ s)
theorem gp_put_tb (w : Int64) (s l r : Nat) (p : Nat) (hp : p < 64) : (gp_put w s l r).toBitVec.getLsbD p = ((w.toBitVec.getLsbD p && !(decide (s ≤ p) && decide (p - s < l))) || (decide (s ≤ p) && r.testBit (p - s))) := by
  unfold gp_put
  rw [Int64.toBitVec_or, Int64.toBitVec_and, Int64.toBitVec_xor, show (-1 : Int64).toBitVec = BitVec.allOnes 64 from by decide, wb_tb, wb_tb, BitVec.getLsbD_or, BitVec.getLsbD_and, BitVec.getLsbD_xor, BitVec.getLsbD_allOnes, BitVec.getLsbD_ofNat, BitVec.getLsbD_ofNat,
    Nat.testBit_mul_two_pow, Nat.testBit_mul_two_pow, Nat.testBit_two_pow_sub_one, decide_eq_true hp]
  simp
theorem gp_put_s {w : Int64} {s l r : Nat} (h : s + l ≤ 64) (hr : r < 2 ^ l) : gp_fd (gp_put w s l r) s l = r := by
  apply Nat.eq_of_testBit_eq
  intro i
  rw [gp_fd_tb]
  by_cases hi : i < l
  · rw [gp_put_tb _ _ _ _ _ (by omega), Nat.add_sub_cancel, decide_eq_true hi, decide_eq_true (show s ≤ i + s by omega)]
    simp
  · rw [decide_eq_false hi, Bool.false_and]
    exact (Nat.testBit_lt_two_pow (Nat.lt_of_lt_of_le hr (Nat.pow_le_pow_right (by decide) (by omega)))).symm
theorem gp_put_o {w : Int64} {s l r s' l' : Nat} (h : s' + l' ≤ 64) (hr : r < 2 ^ l) (hd : s' + l' ≤ s ∨ s + l ≤ s') : gp_fd (gp_put w s l r) s' l' = gp_fd w s' l' := by
  apply Nat.eq_of_testBit_eq
  intro i
  rw [gp_fd_tb, gp_fd_tb]
  by_cases hi : i < l'
  · rw [gp_put_tb _ _ _ _ _ (by omega)]
    by_cases hs : s ≤ i + s'
    · have h2 : ¬ i + s' - s < l := by omega
      rw [decide_eq_true hs, decide_eq_false h2, Nat.testBit_lt_two_pow (Nat.lt_of_lt_of_le hr (Nat.pow_le_pow_right (by decide) (show l ≤ i + s' - s by omega)))]
      simp
    · rw [decide_eq_false hs]
      simp
  · rw [decide_eq_false hi, Bool.false_and, Bool.false_and]
/-- as it is printed: a field read -/
theorem gp_get {w : Int64} {s : Nat} (hs : s < 64) : ((w.toUInt64 >>> ((nI s).toInt64.toUInt64 &&& Int64.toUInt64 63)).toInt64).toInt32 = nI (w.toBitVec.toNat / 2 ^ s) := by
  obtain ⟨m, hm, rfl⟩ := wb_of w
  rw [wb_shr hm hs, lN_i, wb_tn hm]
theorem gp_get16 {w : Int64} {s : Nat} (hs : s < 64) : (((w.toUInt64 >>> ((nI s).toInt64.toUInt64 &&& Int64.toUInt64 63)).toInt64).toInt32) &&& 65535 = nI (gp_fd w s 16) := by
  rw [gp_get hs, nx_mod]
  rfl
theorem nx_1023 (k : Nat) : nI k &&& 1023 = nI (k % 1024) := by
  show nI k &&& nI 1023 = _
  rw [nx_and, show (1023 : Nat) = 2 ^ 10 - 1 from rfl, Nat.and_two_pow_sub_one_eq_mod]
theorem gp_get10 {w : Int64} {s : Nat} (hs : s < 64) : (((w.toUInt64 >>> ((nI s).toInt64.toUInt64 &&& Int64.toUInt64 63)).toInt64).toInt32) &&& 1023 = nI (gp_fd w s 10) := by
  rw [gp_get hs, nx_1023]
  rfl
/-- as it is printed: a field written -/
theorem gp_set16 {w : Int64} {s r : Nat} (hs : s < 64) (hr : r < 2 ^ 16) : (w &&& (((65535 : Int64) <<< ((nI s).toInt64 &&& 63)) ^^^ (-1))) ||| ((nI r).toInt64 <<< ((nI s).toInt64 &&& 63)) = gp_put w s 16 r := by
  rw [nI_l (show r < 2 ^ 31 by omega), show (65535 : Int64) = lN 65535 from rfl, wb_shl _ hs, wb_shl _ hs]
  rfl
theorem gp_set10 {w : Int64} {s r : Nat} (hs : s < 64) (hr : r < 2 ^ 10) : (w &&& (((1023 : Int64) <<< ((nI s).toInt64 &&& 63)) ^^^ (-1))) ||| ((nI r).toInt64 <<< ((nI s).toInt64 &&& 63)) = gp_put w s 10 r := by
  rw [nI_l (show r < 2 ^ 31 by omega), show (1023 : Int64) = lN 1023 from rfl, wb_shl _ hs, wb_shl _ hs]
  rfl
/-- the record words: field j of eight longs -/
def gp_w8 (a : Nat → Int64) (j : Nat) : Nat := gp_fd (a (j / 4)) (16 * (j % 4)) 16
theorem gp_sel {post : Int32 → Prop} {a : Nat → Int64} {j : Nat} (hj : j < 32) (hp : post (nI (gp_w8 a j))) : wpL_get post () (nI j) (a 0) (a 1) (a 2) (a 3) (a 4) (a 5) (a 6) (a 7) := by
  have e1 : nI j >>> ((2 : Int32) &&& 31) = nI (j / 4) := pk_shrN (by omega) _ 2 (by decide)
  have e2 : (16 : Int32) * (nI j &&& 3) = nI (16 * (j % 4)) := by
    rw [pk_andN (by omega) 2 (by decide)]
    exact pk_mul 16 (j % 4)
  have hg : ∀ m, j / 4 = m → wL_get_82 post (nI j) (a m) := by
    rintro m rfl
    unfold wL_get_82
    rw [e2, gp_get16 (by omega)]
    exact hp
  unfold wpL_get
  refine nm_r e1 ?_
  refine pk_eq (j / 4) 0 (fun e => hg 0 e) (fun n0 => pk_eq (j / 4) 1 (fun e => hg 1 e) (fun n1 => pk_eq (j / 4) 2 (fun e => hg 2 e) (fun n2 => pk_eq (j / 4) 3 (fun e => hg 3 e) (fun n3 => pk_eq (j / 4) 4 (fun e => hg 4 e) (fun n4 => pk_eq (j / 4) 5 (fun e => hg 5 e) (fun n5 => pk_eq (j / 4) 6 (fun e => hg 6 e) (fun n6 => hg 7 (by omega))))))))
theorem gp_putL {post : Int64 → Prop} {w : Int64} {i m r : Nat} (hi : i < 32) (hm : m < 8) (hr : r < 2 ^ 16) (hp : post (if i / 4 = m then gp_put w (16 * (i % 4)) 16 r else w)) : wpL_put post () w (nI i) (nI m) (nI r) := by
  have e1 : nI i >>> ((2 : Int32) &&& 31) = nI (i / 4) := pk_shrN (by omega) _ 2 (by decide)
  have e2 : (16 : Int32) * (nI i &&& 3) = nI (16 * (i % 4)) := by
    rw [pk_andN (by omega) 2 (by decide)]
    exact pk_mul 16 (i % 4)
  unfold wpL_put
  rw [e1, e2]
  refine pk_eq (i / 4) m (fun e => ?_) (fun e => ?_)
  · rw [if_pos e] at hp
    refine nm_e ?_
    rw [gp_set16 (by omega) hr]
    exact hp
  · rw [if_neg e] at hp
    exact hp
def gp_a8 (a : Nat → Int64) (i r : Nat) : Nat → Int64 := fun m => if i / 4 = m then gp_put (a m) (16 * (i % 4)) 16 r else a m
theorem gp_a8_s {a : Nat → Int64} {i r : Nat} (hr : r < 2 ^ 16) : gp_w8 (gp_a8 a i r) i = r := by
  unfold gp_w8 gp_a8
  rw [if_pos rfl]
  exact gp_put_s (by omega) hr
theorem gp_a8_o {a : Nat → Int64} {i j r : Nat} (hr : r < 2 ^ 16) (h : j ≠ i) : gp_w8 (gp_a8 a i r) j = gp_w8 a j := by
  unfold gp_w8 gp_a8
  by_cases e : i / 4 = j / 4
  · rw [if_pos e]
    exact gp_put_o (by omega) hr (by omega)
  · rw [if_neg e]
theorem gp_w8_lt (a : Nat → Int64) (j : Nat) : gp_w8 a j < 65536 := gp_fd_lt _ _ 16
theorem gp_emp (j : Nat) : gp_w8 (fun _ => 287953294993589247) j = 1023 := by
  have h : ∀ m, m < 4 → gp_fd 287953294993589247 (16 * m) 16 = 1023 := by decide +kernel
  exact h (j % 4) (by omega)
/-- nibbles: f k, f (k + 1), .. m of them -/
def gp_nb (f : Nat → Nat) : Nat → Nat → Nat
  | _, 0 => 0
  | k, m + 1 => f k + 16 * gp_nb f (k + 1) m
theorem gp_nb_lt {f : Nat → Nat} {m : Nat} : ∀ k, (∀ j, k ≤ j → j < k + m → f j < 16) → gp_nb f k m < 2 ^ (4 * m) := by
  induction m with
  | zero => exact fun k _ => by show 0 < 2 ^ (4 * 0); decide
  | succ m ih =>
    intro k h
    have a := ih (k + 1) (fun j h1 h2 => h j (by omega) (by omega))
    have d := h k (by omega) (by omega)
    show f k + 16 * gp_nb f (k + 1) m < 2 ^ (4 * (m + 1))
    rw [show 4 * (m + 1) = 4 * m + 4 by omega, Nat.pow_add]
    generalize 2 ^ (4 * m) = p at a ⊢
    omega
theorem gp_nb_s {f : Nat → Nat} {m : Nat} : ∀ k, gp_nb f k (m + 1) = gp_nb f k m + f (k + m) * 2 ^ (4 * m) := by
  induction m with
  | zero => exact fun k => by show f k + 16 * 0 = 0 + f k * 1; omega
  | succ m ih =>
    intro k
    show f k + 16 * gp_nb f (k + 1) (m + 1) = f k + 16 * gp_nb f (k + 1) m + f (k + (m + 1)) * 2 ^ (4 * (m + 1))
    rw [ih (k + 1), show 4 * (m + 1) = 4 * m + 4 by omega, Nat.pow_add, show k + 1 + m = k + (m + 1) by omega]
    generalize 2 ^ (4 * m) = p
    generalize gp_nb f (k + 1) m = y
    generalize f (k + (m + 1)) = z
    have e : z * (p * 2 ^ 4) = 16 * (z * p) := by rw [← Nat.mul_assoc, Nat.mul_comm (z * p)]
    rw [e]
    omega
theorem gp_nb_c {f g : Nat → Nat} {m : Nat} : ∀ k, (∀ j, k ≤ j → j < k + m → f j = g j) → gp_nb f k m = gp_nb g k m := by
  induction m with
  | zero => exact fun _ _ => rfl
  | succ m ih =>
    intro k h
    show f k + 16 * gp_nb f (k + 1) m = g k + 16 * gp_nb g (k + 1) m
    rw [h k (by omega) (by omega), ih (k + 1) (fun j h1 h2 => h j (by omega) (by omega))]
/-- bit t of a long, as it is printed -/
theorem gp_bit {w : Int64} {t : Nat} (ht : t < 64) : ((w.toUInt64 >>> ((nI t).toInt64.toUInt64 &&& Int64.toUInt64 63)).toInt64) &&& 1 = 0 ↔ ¬ gs_m w (t + 1) := by
  have e : (((nI t).toInt64.toUInt64 &&& Int64.toUInt64 63)).toNat = t := by
    rw [wb_cu t ht]
    show (BitVec.ofNat 64 t).toNat = t
    rw [BitVec.toNat_ofNat, Nat.mod_eq_of_lt (by omega)]
  rw [ts_bit ht e]
  unfold gs_m
  rw [Nat.add_sub_cancel]
  constructor
  · intro h z
    rw [h] at z
    exact Bool.noConfusion z.2.2
  · intro h
    exact ts_nt (fun z => h ⟨by omega, by omega, z⟩)
theorem gp_bitS {w : Int64} {t : Nat} (ht : t < 64) (s : Nat) : gs_m (w ||| ((1 : Int64) <<< ((nI t).toInt64 &&& 63))) s ↔ gs_m w s ∨ s = t + 1 := by
  rw [show (1 : Int64) = lN 1 from rfl, wb_shl 1 ht, Nat.one_mul, gs_m_or]
  have := gs_m_bit (t := t + 1) (by omega) (by omega) s
  unfold gs_bit at this
  rw [Nat.add_sub_cancel] at this
  rw [this]
end
section
/-! the replay -/
theorem gp_lst_eq {P : Nat → Prop} {m i : Nat} (hi : i < m) (h : P i) (hm : ∀ j, i < j → j < m → ¬ P j) : gs_lst P m = i + 1 := by
  induction m with
  | zero => omega
  | succ m ih =>
    by_cases e : i = m
    · subst e
      exact gs_lst_t h
    · rw [gs_lst_f (hm m (by omega) (by omega))]
      exact ih (by omega) (fun j h1 h2 => hm j h1 (by omega))
theorem gp_lst_mx {P : Nat → Prop} {m i : Nat} (h : gs_lst P m = i + 1) (j : Nat) (h1 : i < j) (h2 : j < m) : ¬ P j := by
  induction m with
  | zero => omega
  | succ m ih =>
    by_cases c : P m
    · rw [gs_lst_t c] at h
      omega
    · rw [gs_lst_f c] at h
      by_cases e : j = m
      · rw [e]
        exact c
      · exact ih h (by omega)
theorem gp_lst_no {P : Nat → Prop} {m : Nat} (h : gs_lst P m = 0) (j : Nat) (h2 : j < m) : ¬ P j := by
  induction m with
  | zero => omega
  | succ m ih =>
    by_cases c : P m
    · rw [gs_lst_t c] at h
      omega
    · rw [gs_lst_f c] at h
      by_cases e : j = m
      · rw [e]
        exact c
      · exact ih h (by omega)
theorem gp_lst_n0 {P : Nat → Prop} {m : Nat} (h : ∀ j, j < m → ¬ P j) : gs_lst P m = 0 := by
  cases e : gs_lst P m with
  | zero => rfl
  | succ i => exact absurd (gs_lst_in e).2 (h i (gs_lst_in e).1)
/-- entry i writes x and is of the first k settled -/
def gp_Wk (q : Nat → Nat) (k : Nat) (T : Nat → Nat) (X K : Nat → Int32) (x : Int32) (i : Nat) : Prop := (X i = x ∧ ¬ K i &&& 2 = 0) ∧ ∃ m, m < k ∧ q m = T i
noncomputable def gp_sv (q : Nat → Nat) (k n : Nat) (T : Nat → Nat) (X K lv : Nat → Int32) (x : Int32) : Int32 := gs_val 0 lv (gs_lst (gp_Wk q k T X K x) n)
section
variable {b n c : Nat} {st so : Nat → Int32} {pr rf : Nat → Int64} {T : Nat → Nat} {X K lt li lk lv A : Nat → Int32} {F : Nat → Nat → Prop} {q : Nat → Nat}
theorem gp_kw2 {a k : Int32} (h : ¬ a &&& 2 = 0) : ¬ (k ||| a) &&& 2 = 0 := by
  rw [Int32.or_comm]
  exact gp_kw h
theorem gp_back (h : gp_J b n c st so pr rf T X K lt li lk lv A F q) {k k' : Nat} (hk : k < c) (hk' : k' ≤ k) (he : gs_E n T X K st (q k) (q k')) : False := by
  obtain ⟨h0, hL, hK, hv, hE, hRF, hA, hS, hQ, hG, hR, hV⟩ := h
  obtain ⟨m, hm, e⟩ := hQ.2.2.2.2 k' (by omega) _ he
  have := hQ.2.2.1 m k (by omega) hk e
  omega
theorem gp_edge (h : gp_J b n c st so pr rf T X K lt li lk lv A F q) {i j : Nat} (hij : i < j) (hj : j < n) (hT : T i ≠ T j) (hx : X i = X j) (hw : ¬ K i &&& 2 = 0 ∨ ¬ K j &&& 2 = 0) (hi5 : ¬ st (T i) = 5) (hj5 : ¬ st (T j) = 5) : gs_E n T X K st (T i) (T j) :=
  ⟨i, j, hij, hj, rfl, rfl, hT, hx, hw.elim (fun z => gp_kw z) (fun z => gp_kw2 z), hi5, hj5⟩
theorem gp_q4 (h : gp_J b n c st so pr rf T X K lt li lk lv A F q) {k : Nat} (hk : k < c) : ¬ st (q k) = 5 := by
  rw [(h.2.2.2.2.2.2.2.2.1.2.1 k hk).2.2]
  decide
theorem gp_pred (h : gp_J b n c st so pr rf T X K lt li lk lv A F q) {k : Nat} (hk : k < c) {s : Nat} (he : gs_E n T X K st s (q k)) : ∃ m, m < k ∧ q m = s := h.2.2.2.2.2.2.2.2.1.2.2.2.2 k hk s he
theorem gp_R1 (h : gp_J b n c st so pr rf T X K lt li lk lv A F q) {k j : Nat} (hk : k < c) (hj : j < n) (ht : T j = q k) :
    gs_val 0 lv (gs_lst (gs_Wr T X K st (X j)) j) = gs_val (gp_sv q k n T X K lv (X j)) lv (gs_lst (gs_Wt T X K (q k) (X j)) j) := by
  have q4 : ∀ m, m < c → ¬ st (q m) = 5 := fun m hm => gp_q4 h hm
  have j5 : ¬ st (T j) = 5 := by rw [ht]; exact q4 k hk
  cases e : gs_lst (gs_Wt T X K (q k) (X j)) j with
  | succ i =>
    have g := gs_lst_in e
    have gt : T i = q k := g.2.1
    have e2 : gs_lst (gs_Wr T X K st (X j)) j = i + 1 := by
      refine gp_lst_eq g.1 ⟨g.2.2, by rw [gt]; exact q4 k hk⟩ (fun i' h1 h2 z => ?_)
      by_cases et : T i' = q k
      · exact gp_lst_mx e i' h1 h2 ⟨et, z.1⟩
      · have a := gp_edge h h2 hj (by rw [ht]; exact et) z.1.1 (Or.inl z.1.2) z.2 j5
        rw [ht] at a
        obtain ⟨m, hm, em⟩ := gp_pred h hk a
        have d := gp_edge h h1 (by omega) (by rw [gt]; exact fun y => et y.symm) (g.2.2.1.trans z.1.1.symm) (Or.inl g.2.2.2) (by rw [gt]; exact q4 k hk) z.2
        rw [gt, ← em] at d
        exact gp_back h hk (by omega) d
    rw [e2]
    rfl
  | zero =>
    have no := gp_lst_no e
    have e2 : gs_lst (gs_Wr T X K st (X j)) j = gs_lst (gp_Wk q k T X K (X j)) n := by
      have mem : ∀ i', i' < j → gs_Wr T X K st (X j) i' → gp_Wk q k T X K (X j) i' := by
        intro i' hi' z
        have et : T i' ≠ q k := fun et => no i' hi' ⟨et, z.1⟩
        have a := gp_edge h hi' hj (by rw [ht]; exact et) z.1.1 (Or.inl z.1.2) z.2 j5
        rw [ht] at a
        exact ⟨z.1, gp_pred h hk a⟩
      cases e3 : gs_lst (gp_Wk q k T X K (X j)) n with
      | zero => exact gp_lst_n0 (fun i' hi' z => gp_lst_no e3 i' (by omega) (mem i' hi' z))
      | succ i =>
        have g := gs_lst_in e3
        obtain ⟨m, hm, em⟩ := g.2.2
        have ne : T i ≠ q k := fun z => by
          have := h.2.2.2.2.2.2.2.2.1.2.2.1 m k (by omega) hk (em.trans z)
          omega
        have i5 : ¬ st (T i) = 5 := by rw [← em]; exact q4 m (by omega)
        have hlt : i < j := by
          apply Classical.byContradiction
          intro hn
          have hne : i ≠ j := fun z => ne (by rw [z]; exact ht)
          have d := gp_edge h (show j < i by omega) g.1 (by rw [ht]; exact fun y => ne y.symm) g.2.1.1.symm (Or.inr g.2.1.2) j5 i5
          rw [ht, ← em] at d
          exact gp_back h hk (by omega) d
        exact gp_lst_eq hlt ⟨g.2.1, i5⟩ (fun i' h1 h2 z => gp_lst_mx e3 i' h1 (by omega) (mem i' h2 z))
    rw [e2]
    rfl
theorem gp_R2 (h : gp_J b n c st so pr rf T X K lt li lk lv A F q) {k : Nat} (hk : k < c) (x : Int32) : gp_sv q (k + 1) n T X K lv x = gs_val (gp_sv q k n T X K lv x) lv (gs_lst (gs_Wt T X K (q k) x) n) := by
  have q4 : ∀ m, m < c → ¬ st (q m) = 5 := fun m hm => gp_q4 h hm
  cases e : gs_lst (gs_Wt T X K (q k) x) n with
  | succ i =>
    have g := gs_lst_in e
    have gt : T i = q k := g.2.1
    have e2 : gs_lst (gp_Wk q (k + 1) T X K x) n = i + 1 := by
      refine gp_lst_eq g.1 ⟨g.2.2, k, by omega, gt.symm⟩ (fun i' h1 h2 z => ?_)
      obtain ⟨m, hm, em⟩ := z.2
      by_cases et : T i' = q k
      · exact gp_lst_mx e i' h1 h2 ⟨et, z.1⟩
      · have hm' : m < k := by
          apply Classical.byContradiction
          intro hn
          have : m = k := by omega
          rw [this] at em
          exact et em.symm
        have d := gp_edge h h1 h2 (by rw [gt]; exact fun y => et y.symm) (g.2.2.1.trans z.1.1.symm) (Or.inl g.2.2.2) (by rw [gt]; exact q4 k hk) (by rw [← em]; exact q4 m (by omega))
        rw [gt, ← em] at d
        exact gp_back h hk (by omega) d
    unfold gp_sv
    rw [e2]
    rfl
  | zero =>
    have no := gp_lst_no e
    have e2 : gs_lst (gp_Wk q (k + 1) T X K x) n = gs_lst (gp_Wk q k T X K x) n := by
      refine gs_lst_c (fun i hi => ⟨fun z => ?_, fun z => ⟨z.1, z.2.elim fun m hm => ⟨m, by omega, hm.2⟩⟩⟩)
      obtain ⟨m, hm, em⟩ := z.2
      refine ⟨z.1, m, ?_, em⟩
      apply Classical.byContradiction
      intro hn
      have : m = k := by omega
      rw [this] at em
      exact no i hi ⟨em.symm, z.1⟩
    unfold gp_sv
    rw [e2]
    rfl
theorem gp_R3 (h : gp_J b n c st so pr rf T X K lt li lk lv A F q) (x : Int32) : gs_val 0 lv (gs_lst (gs_Ws T X K st x) n) = gp_sv q c n T X K lv x := by
  unfold gp_sv
  obtain ⟨h0, hL, hK, hv, hE, hRF, hA, hS, hQ, hG, hR, hV⟩ := h
  rw [gs_lst_c (fun i hi => ?_)]
  have l := hL i hi
  constructor
  · intro z
    exact ⟨z.1, hQ.2.2.2.1 (T i) l.2.1 l.2.2.1 z.2⟩
  · rintro ⟨z, m, hm, em⟩
    refine ⟨z, ?_⟩
    rw [← em]
    exact (hQ.2.1 m hm).2.2
theorem gp_sv_in (hv : ∀ j, j < n → ∃ v, v < 1000 ∧ lv j = nI v) (k : Nat) (x : Int32) : ∃ y, y < 1000 ∧ gp_sv q k n T X K lv x = nI y := gp_cv hv
theorem gp_sv_q {q' : Nat → Nat} {k : Nat} (h : ∀ m, m < k → q' m = q m) (x : Int32) : gp_sv q' k n T X K lv x = gp_sv q k n T X K lv x := by
  unfold gp_sv
  rw [gs_lst_c (fun i _ => ?_)]
  unfold gp_Wk
  exact ⟨fun z => ⟨z.1, z.2.elim fun m hm => ⟨m, hm.1, by rw [← h m hm.1]; exact hm.2⟩⟩, fun z => ⟨z.1, z.2.elim fun m hm => ⟨m, hm.1, by rw [h m hm.1]; exact hm.2⟩⟩⟩
theorem gp_sv_a {k t : Nat} {x z v : Int32} {kk : Int32} (ht : ∀ m, m < k → q m ≠ t) : gp_sv q k (n + 1) (gs_apN T n t) (upd X n z) (upd K n kk) (upd lv n v) x = gp_sv q k n T X K lv x := by
  unfold gp_sv
  rw [gs_lst_f (fun y => y.2.elim fun m hm => ht m hm.1 (hm.2.trans gs_apN_s))]
  have e : gs_lst (gp_Wk q k (gs_apN T n t) (upd X n z) (upd K n kk) x) n = gs_lst (gp_Wk q k T X K x) n := by
    refine gs_lst_c (fun i hi => ?_)
    have ne : i ≠ n := by omega
    unfold gp_Wk
    rw [gs_apN_n ne, pk_un ne, pk_un ne]
  rw [e]
  cases e2 : gs_lst (gp_Wk q k T X K x) n with
  | zero => rfl
  | succ i => exact pk_un (by have := (gs_lst_in e2).1; omega)
theorem gp_sv_0 (x : Int32) : gp_sv q 0 n T X K lv x = 0 := by
  unfold gp_sv
  rw [gp_lst_n0 (fun j _ z => z.2.elim fun m hm => absurd hm.1 (by omega))]
  rfl
end
end
section
/-! the law's small methods -/
def gl_cell (L : Nat) (xs : Nat → Int32) (k : Nat) : Int32 := if k < L then xs k else 0
theorem gl_cellW {post : Int32 → Prop} {L : Nat} {xs : Nat → Int32} {k : Nat} (hL : L ≤ 260) (hk : k < 2 ^ 30) (hp : post (gl_cell L xs k)) : wpL_cell post L xs () (nI k) := by
  unfold gl_cell at hp
  unfold wpL_cell
  refine pk_le L k (fun h => ?_) (fun h => ⟨vp_in_nI h (by omega), ?_⟩)
  · rw [if_neg (by omega)] at hp
    exact hp
  · rw [if_pos h] at hp
    rw [nI_clamp (show k < 2 ^ 31 by omega)]
    exact hp
def gl_p (L : Nat) (xs : Nat → Int32) (g : Nat) : Nat := (gl_cell L xs (1 + 2 * g)).toBitVec.toNat % 2 ^ 16
def gl_c (L : Nat) (xs : Nat → Int32) (g : Nat) : Nat := (gl_cell L xs (2 + 2 * g)).toBitVec.toNat % 2 ^ 16
theorem gl_p_lt (L : Nat) (xs : Nat → Int32) (g : Nat) : gl_p L xs g < 65536 := Nat.mod_lt _ (by decide)
theorem gl_c_lt (L : Nat) (xs : Nat → Int32) (g : Nat) : gl_c L xs g < 65536 := Nat.mod_lt _ (by decide)
theorem gl_p_e (L : Nat) (xs : Nat → Int32) (g : Nat) : gl_cell L xs (1 + 2 * g) &&& 65535 = nI (gl_p L xs g) := pk_and _ 16 (by decide)
theorem gl_c_e (L : Nat) (xs : Nat → Int32) (g : Nat) : gl_cell L xs (2 + 2 * g) &&& 65535 = nI (gl_c L xs g) := pk_and _ 16 (by decide)
def gl_rel (i d : Nat) : Nat := i / 3 + d % 4 + 1
def gl_item (p d y : Nat) : Nat := (d / 4 + p / 8) % y
def gl_am (p d g : Nat) : Nat := (37 * p + 11 * d + 101 * g) % 1000
theorem gl_relW {post : Int32 → Prop} {i d : Nat} (hi : i < 65536) (hd : d < 65536) (hp : post (nI (gl_rel i d))) : wpL_rel post () (nI i) (nI d) := by
  unfold wpL_rel
  refine ⟨by decide, ?_⟩
  have e : (nI i / 3 + (nI d &&& 3)) + 1 = nI (gl_rel i d) := by
    have e1 : nI i / 3 = nI (i / 3) := pk_div (d := 3) (by omega) (by omega) (by omega)
    rw [e1, pk_andN (by omega) 2 (by decide), nI_add, nI_1]
    rfl
  rw [e]
  exact hp
theorem gl_itemW {post : Int32 → Prop} {p d y : Nat} (hp' : p < 65536) (hd : d < 65536) (hy : 1 ≤ y) (hy4 : y ≤ 4) (hp : post (nI (gl_item p d y))) : wpL_item post () (nI p) (nI d) (nI y) := by
  unfold wpL_item
  refine ⟨by decide, nI_ne0 (by omega) (by omega), ?_⟩
  have e1 : nI d >>> ((2 : Int32) &&& 31) = nI (d / 4) := pk_shrN (by omega) _ 2 (by decide)
  have e2 : nI p / 8 = nI (p / 8) := pk_div (d := 8) (by omega) (by omega) (by omega)
  rw [e1, e2, nI_add, pk_rem (by omega) (by omega) (by omega)]
  exact hp
theorem gl_amW {post : Int32 → Prop} {p d g : Nat} (hp' : p < 65536) (hd : d < 65536) (hg : g < 65536) (hp : post (nI (gl_am p d g))) : wpL_amount post () (nI p) (nI d) (nI g) := by
  unfold wpL_amount
  refine ⟨by decide, ?_⟩
  have e : (37 : Int32) * nI p + 11 * nI d + 101 * nI g = nI (37 * p + 11 * d + 101 * g) := by
    have e1 : (37 : Int32) * nI p = nI (37 * p) := pk_mul 37 p
    have e2 : (11 : Int32) * nI d = nI (11 * d) := pk_mul 11 d
    have e3 : (101 : Int32) * nI g = nI (101 * g) := pk_mul 101 g
    rw [e1, e2, e3, nI_add, nI_add]
  rw [e]
  have e4 := pk_rem (a := 37 * p + 11 * d + 101 * g) (d := 1000) (by omega) (by omega) (by omega)
  have e5 : nI (37 * p + 11 * d + 101 * g) - nI (37 * p + 11 * d + 101 * g) / 1000 * 1000 = nI (gl_am p d g) := e4
  rw [e5]
  exact hp
theorem gl_ix1 (bl j : Nat) : (1 : Int32) + 2 * (32 * nI bl + nI j) = nI (1 + 2 * (32 * bl + j)) := by
  have e1 : (32 : Int32) * nI bl = nI (32 * bl) := pk_mul 32 bl
  rw [e1, nI_add]
  have e2 : (2 : Int32) * nI (32 * bl + j) = nI (2 * (32 * bl + j)) := pk_mul 2 _
  rw [e2]
  exact nI_add 1 _
theorem gl_ix2 (bl j : Nat) : (2 : Int32) + 2 * (32 * nI bl + nI j) = nI (2 + 2 * (32 * bl + j)) := by
  have e1 : (32 : Int32) * nI bl = nI (32 * bl) := pk_mul 32 bl
  rw [e1, nI_add]
  have e2 : (2 : Int32) * nI (32 * bl + j) = nI (2 * (32 * bl + j)) := pk_mul 2 _
  rw [e2]
  exact nI_add 2 _
theorem gl_g (bl j : Nat) : (32 : Int32) * nI bl + nI j = nI (32 * bl + j) := by
  have e1 : (32 : Int32) * nI bl = nI (32 * bl) := pk_mul 32 bl
  rw [e1, nI_add]
theorem gl_j1 (g : Nat) : (1 : Int32) + 2 * nI g = nI (1 + 2 * g) := by
  have e2 : (2 : Int32) * nI g = nI (2 * g) := pk_mul 2 _
  rw [e2]
  exact nI_add 1 _
theorem gl_j2 (g : Nat) : (2 : Int32) + 2 * nI g = nI (2 + 2 * g) := by
  have e2 : (2 : Int32) * nI g = nI (2 * g) := pk_mul 2 _
  rw [e2]
  exact nI_add 2 _
end
section
/-! the law's checks behind a step, from the last to the first -/
section
variable {post : Int32 → Prop} {L : Nat} {xs : Nat → Int32} {J61 : Int64 → Int64 → Int64 → Int64 → Int64 → Int64 → Int32 → Int32 → Int32 → Int32 → Int32 → Int32 → (Nat → Int32) → (Nat → Int64) → (Nat → Int64) → (Nat → Int32) → (Nat → Int32) → (Nat → Int32) → (Nat → Int32) → (Nat → Int32) → Prop} {J123 : Int64 → Int64 → Int64 → Int64 → Int64 → Int64 → Int64 → Int64 → Int64 → Int64 → Int64 → Int64 → Int64 → Int64 → Int32 → Int32 → Int32 → Int32 → Int32 → Int32 → Int32 → (Nat → Int32) → (Nat → Int64) → (Nat → Int64) → (Nat → Int32) → (Nat → Int32) → (Nat → Int32) → (Nat → Int32) → (Nat → Int32) → Prop} {hd : Int32} {y nn bl u i kc ks : Nat} {o a : Nat → Int64} {sn vl : Int64} {sl it : Int32} {b n c : Nat} {st : Nat → Int32} {pr rf : Nat → Int64} {lt li lk lv so : Nat → Int32} {T : Nat → Nat} {X K A : Nat → Int32} {F : Nat → Nat → Prop} {q : Nat → Nat}
theorem gl_1391 (h : gp_J b n c st so pr rf T X K lt li lk lv A F q) (hi : it = nI y) (hy : y ≤ 4) (act : Int32) (ha : act = 0 → ∀ t, 1 ≤ t → t ≤ b → st t = 4 ∨ st t = 5) (k : J123 (o 0) (o 1) (o 2) (o 3) sn vl (a 0) (a 1) (a 2) (a 3) (a 4) (a 5) (a 6) (a 7) (nI u) (nI (i + 1)) sl it (nI b) (nI n) (nI c) st pr rf lt li lk lv so) : ∃ fu, wL_law_1391 post L xs J61 J123 hd (nI y) (nI nn) (o 0) (o 1) (o 2) (o 3) sn vl (nI bl) (a 0) (a 1) (a 2) (a 3) (a 4) (a 5) (a 6) (a 7) (nI (14 * bl)) (nI u) (nI i) act kc ks sl it (nI b) (nI n) (nI c) st pr rf lt li lk lv so fu 0 := by
  obtain ⟨h0, hL, hK, hv, hE, hRF, hA, hS, hQ, hG, hR, hV⟩ := h
  refine pk_loop (σ := Unit) (fun m x _ => wL_law_1391 post L xs J61 J123 hd (nI y) (nI nn) (o 0) (o 1) (o 2) (o 3) sn vl (nI bl) (a 0) (a 1) (a 2) (a 3) (a 4) (a 5) (a 6) (a 7) (nI (14 * bl)) (nI u) (nI i) act kc ks sl it (nI b) (nI n) (nI c) st pr rf lt li lk lv so m (nI x)) (fun _ _ => True) y 0 () (Nat.zero_le y) trivial ?_ ?_
  · intro m _ _
    exact pk_le y y (fun _ => nm_r (nI_1 i) k) (fun h => absurd h (by omega))
  · intro m x _ hx _ k'
    refine pk_le y x (fun h => absurd h (by omega)) (fun _ => br_c (fun e => ?_) (fun e => nm_r (nI_1 i) k))
    refine gx_value hL h0.2.1 (by omega) hi hx (by omega) (gx_settledValue hL h0.2.1 (by omega) hi hx (by omega) (br_t ?_ (nm_r (nI_1 x) (k' () trivial))))
    have e2 : gs_lst (gs_Wr T X K st (nI x)) n = gs_lst (gs_Ws T X K st (nI x)) n := by
      refine gs_lst_c (fun j hj => ?_)
      have l := hL j hj
      unfold gs_Wr gs_Ws
      rcases ha e (T j) l.2.1 l.2.2.1 with z | z
      · rw [z]
        exact ⟨fun g => ⟨g.1, rfl⟩, fun g => ⟨g.1, by decide⟩⟩
      · rw [z]
        exact ⟨fun g => absurd rfl g.2, fun g => absurd g.2 (by decide)⟩
    rw [e2]
theorem gl_1306 (h : gp_J b n c st so pr rf T X K lt li lk lv A F q) (hi : it = nI y) (hy : y ≤ 4) (act : Int32) (ha : act = 0 → ∀ t, 1 ≤ t → t ≤ b → st t = 4 ∨ st t = 5) (hsn : ∀ t, 1 ≤ t → t ≤ b → (gs_m sn (t + 1) ↔ st t = 4)) (k : J123 (o 0) (o 1) (o 2) (o 3) sn vl (a 0) (a 1) (a 2) (a 3) (a 4) (a 5) (a 6) (a 7) (nI u) (nI (i + 1)) sl it (nI b) (nI n) (nI c) st pr rf lt li lk lv so) : ∃ fu, wL_law_1306 post L xs J61 J123 hd (nI y) (nI nn) (o 0) (o 1) (o 2) (o 3) sn vl (nI bl) (a 0) (a 1) (a 2) (a 3) (a 4) (a 5) (a 6) (a 7) (nI (14 * bl)) (nI u) (nI i) act kc ks sl it (nI b) (nI n) (nI c) st pr rf lt li lk lv so fu 1 := by
  have hb : b ≤ 64 := by have := h.1.1; omega
  refine pk_loop (σ := Unit) (fun m j _ => wL_law_1306 post L xs J61 J123 hd (nI y) (nI nn) (o 0) (o 1) (o 2) (o 3) sn vl (nI bl) (a 0) (a 1) (a 2) (a 3) (a 4) (a 5) (a 6) (a 7) (nI (14 * bl)) (nI u) (nI i) act kc ks sl it (nI b) (nI n) (nI c) st pr rf lt li lk lv so m (nI (j + 1))) (fun _ _ => True) 56 0 () (Nat.zero_le 56) trivial ?_ ?_
  · intro m _ _
    exact pk_lt 56 57 (fun _ => gl_1391 h hi hy act ha k) (fun h => absurd h (by omega))
  · intro m j _ hj _ k'
    refine pk_lt 56 (j + 1) (fun h => absurd h (by omega)) (fun _ => br_c (fun e => ?_) (fun e => gl_1391 h hi hy act ha k))
    refine gx_status hb (by omega) (fun t1 t2 => ?_) (fun _ => br_t rfl (nm_r (nI_1 (j + 1)) (k' () trivial)))
    have hs := hsn (j + 1) t1 t2
    rcases ha e (j + 1) t1 t2 with z | z
    · rw [z]
      refine br_f (by decide) (br_f (by decide) (br_f (by decide) (br_f (by decide) ?_)))
      unfold wL_law_1360
      rw [gp_bit (show j + 1 < 64 by omega)]
      refine br_f (fun y => y (hs.mpr z)) ?_
      unfold wL_law_1377
      exact br_f (by decide) (nm_r (nI_1 (j + 1)) (k' () trivial))
    · rw [z]
      refine br_f (by decide) (br_f (by decide) (br_f (by decide) (br_t rfl ?_)))
      unfold wL_law_1360
      rw [gp_bit (show j + 1 < 64 by omega)]
      refine br_t (fun y => ?_) ?_
      · have := hs.mp y
        rw [z] at this
        exact absurd this (by decide)
      · unfold wL_law_1377
        exact br_f (by decide) (nm_r (nI_1 (j + 1)) (k' () trivial))
theorem gl_1276 (h : gp_J b n c st so pr rf T X K lt li lk lv A F q) (hi : it = nI y) (hy : y ≤ 4) (hb56 : b ≤ 56) (hsn : ∀ t, 1 ≤ t → t ≤ b → (gs_m sn (t + 1) ↔ st t = 4)) (k : J123 (o 0) (o 1) (o 2) (o 3) sn vl (a 0) (a 1) (a 2) (a 3) (a 4) (a 5) (a 6) (a 7) (nI u) (nI (i + 1)) sl it (nI b) (nI n) (nI c) st pr rf lt li lk lv so) : ∃ fu, wL_law_1276 post L xs J61 J123 hd (nI y) (nI nn) (o 0) (o 1) (o 2) (o 3) sn vl (nI bl) (a 0) (a 1) (a 2) (a 3) (a 4) (a 5) (a 6) (a 7) (nI (14 * bl)) (nI u) (nI i) kc ks sl it (nI b) (nI n) (nI c) st pr rf lt li lk lv so fu 0 1 := by
  refine pk_loop (σ := Int32) (fun m j s => wL_law_1276 post L xs J61 J123 hd (nI y) (nI nn) (o 0) (o 1) (o 2) (o 3) sn vl (nI bl) (a 0) (a 1) (a 2) (a 3) (a 4) (a 5) (a 6) (a 7) (nI (14 * bl)) (nI u) (nI i) kc ks sl it (nI b) (nI n) (nI c) st pr rf lt li lk lv so m s (nI (j + 1))) (fun j s => s = 1 ∨ (s = 0 ∧ ∀ t, 1 ≤ t → t ≤ j → t ≤ b → ¬ st t = 1)) 56 0 0 (Nat.zero_le 56) (Or.inr ⟨rfl, fun t _ h2 => absurd h2 (by omega)⟩) ?_ ?_
  · intro m s hs
    refine pk_lt 56 57 (fun _ => gl_1306 h hi hy s (fun e => ?_) hsn k) (fun h => absurd h (by omega))
    rcases hs with z | z
    · rw [z] at e
      exact absurd e (by decide)
    · exact gp_done h (fun t t1 t2 => z.2 t t1 (by omega) t2)
  · intro m j s hj hs k'
    refine pk_lt 56 (j + 1) (fun h => absurd h (by omega)) (fun _ => ?_)
    have skip : (j + 1 ≤ b → ¬ st (j + 1) = 1) → wL_law_1276 post L xs J61 J123 hd (nI y) (nI nn) (o 0) (o 1) (o 2) (o 3) sn vl (nI bl) (a 0) (a 1) (a 2) (a 3) (a 4) (a 5) (a 6) (a 7) (nI (14 * bl)) (nI u) (nI i) kc ks sl it (nI b) (nI n) (nI c) st pr rf lt li lk lv so m s (nI (j + 1 + 1)) := by
      intro hx
      refine k' s (hs.imp id (fun z => ⟨z.1, fun t t1 t2 t3 => ?_⟩))
      by_cases e : t = j + 1
      · rw [e]
        exact hx (by omega)
      · exact z.2 t t1 (by omega) t3
    refine gx_status (by omega) (by omega) (fun t1 t2 => br_c (fun e => nm_r (nI_1 (j + 1)) (k' 1 (Or.inl rfl))) (fun e => nm_r (nI_1 (j + 1)) (skip (fun _ => e)))) (fun z => br_f (by decide) (nm_r (nI_1 (j + 1)) (skip (fun z' => absurd z' (by omega)))))
theorem gl_1151 (h : gp_J b n c st so pr rf T X K lt li lk lv A F q) (hLL : L ≤ 260) (hbl : bl < 4) (hi : it = nI y) (hy : y ≤ 4) (hb56 : b ≤ 56) (hsn : ∀ t, 1 ≤ t → t ≤ b → (gs_m sn (t + 1) ↔ st t = 4))
    (hrec : ∀ j, j < 32 → gp_w8 a j / 1024 ≠ 0 → F (14 * bl + gl_rel j (gl_c L xs (32 * bl + j))) (14 * bl + gp_w8 a j / 1024)) (k : J123 (o 0) (o 1) (o 2) (o 3) sn vl (a 0) (a 1) (a 2) (a 3) (a 4) (a 5) (a 6) (a 7) (nI u) (nI (i + 1)) sl it (nI b) (nI n) (nI c) st pr rf lt li lk lv so) : ∃ fu, wL_law_1151 post L xs J61 J123 hd (nI y) (nI nn) (o 0) (o 1) (o 2) (o 3) sn vl (nI bl) (a 0) (a 1) (a 2) (a 3) (a 4) (a 5) (a 6) (a 7) (nI (14 * bl)) (nI u) (nI i) kc ks sl it (nI b) (nI n) (nI c) st pr rf lt li lk lv so fu 0 := by
  refine pk_loop (σ := Unit) (fun m j _ => wL_law_1151 post L xs J61 J123 hd (nI y) (nI nn) (o 0) (o 1) (o 2) (o 3) sn vl (nI bl) (a 0) (a 1) (a 2) (a 3) (a 4) (a 5) (a 6) (a 7) (nI (14 * bl)) (nI u) (nI i) kc ks sl it (nI b) (nI n) (nI c) st pr rf lt li lk lv so m (nI j)) (fun _ _ => True) 32 0 () (Nat.zero_le 32) trivial ?_ ?_
  · intro m _ _
    exact pk_le 32 32 (fun _ => gl_1276 h hi hy hb56 hsn k) (fun h => absurd h (by omega))
  · intro m j _ hj _ k'
    have hw := gp_w8_lt a j
    have e10 : nI (gp_w8 a j) >>> ((10 : Int32) &&& 31) = nI (gp_w8 a j / 1024) := pk_shrN (by omega) _ 10 (by decide)
    refine pk_le 32 j (fun h => absurd h (by omega)) (fun _ => gp_sel hj (nm_r e10 ?_))
    have nx := k' () trivial
    refine pk_eq (gp_w8 a j / 1024) 0 (fun _ => nm_r (nI_1 j) nx) (fun ne => ?_)
    have hF := h.2.2.2.2.2.2.2.1.1 _ _ (hrec j hj ne)
    have h5 := h.2.2.2.2.2.2.2.1.2.2.1 _ _ (hrec j hj ne)
    rw [gl_ix2]
    refine gl_cellW hLL (by omega) ?_
    rw [gl_c_e]
    refine gl_relW (by omega) (gl_c_lt _ _ _) ?_
    have hr : gl_rel j (gl_c L xs (32 * bl + j)) < 100 := by unfold gl_rel; omega
    rw [nI_add, nI_add]
    refine gx_status (by omega) (by omega) (fun _ _ => gx_status (by omega) (by omega) (fun _ _ => ?_) (fun z => absurd z (by omega))) (fun z => absurd z (by omega))
    have fin : gp_fin (st (14 * bl + gl_rel j (gl_c L xs (32 * bl + j)))) → wL_law_1250 post L xs J61 J123 (wL_law_1151 post L xs J61 J123 hd (nI y) (nI nn) (o 0) (o 1) (o 2) (o 3) sn vl (nI bl) (a 0) (a 1) (a 2) (a 3) (a 4) (a 5) (a 6) (a 7) (nI (14 * bl)) (nI u) (nI i) kc ks sl it (nI b) (nI n) (nI c) st pr rf lt li lk lv so m) hd (nI y) (nI nn) (o 0) (o 1) (o 2) (o 3) sn vl (nI bl) (a 0) (a 1) (a 2) (a 3) (a 4) (a 5) (a 6) (a 7) (nI (14 * bl)) (nI u) (nI i) (nI j) (st (14 * bl + gp_w8 a j / 1024)) kc ks sl it (nI b) (nI n) (nI c) st pr rf lt li lk lv so := by
      intro hf
      unfold wL_law_1250
      rcases h5 hf with z | z
      · rw [z]
        exact br_t rfl (nm_r (nI_1 j) nx)
      · rw [z]
        exact br_f (by decide) (br_t rfl (nm_r (nI_1 j) nx))
    exact br_c (fun z => fin (Or.inl z)) (fun _ => br_c (fun z => fin (Or.inr z)) (fun _ => nm_r (nI_1 j) nx))
theorem gl_10x (x : Nat) : (10 : Int32) * nI x = nI (10 * x) := pk_mul 10 x
theorem gl_1111 (h : gp_J b n c st so pr rf T X K lt li lk lv A F q) (hLL : L ≤ 260) (hbl : bl < 4) (hi : it = nI y) (hy : y ≤ 4) (hb56 : b ≤ 56) (hsn : ∀ t, 1 ≤ t → t ≤ b → (gs_m sn (t + 1) ↔ st t = 4))
    (hvl : ∀ x, x < y → nI (gp_fd vl (10 * x) 10) = gp_sv q c n T X K lv (nI x)) (hrec : ∀ j, j < 32 → gp_w8 a j / 1024 ≠ 0 → F (14 * bl + gl_rel j (gl_c L xs (32 * bl + j))) (14 * bl + gp_w8 a j / 1024)) (k : J123 (o 0) (o 1) (o 2) (o 3) sn vl (a 0) (a 1) (a 2) (a 3) (a 4) (a 5) (a 6) (a 7) (nI u) (nI (i + 1)) sl it (nI b) (nI n) (nI c) st pr rf lt li lk lv so) : ∃ fu, wL_law_1111 post L xs J61 J123 hd (nI y) (nI nn) (o 0) (o 1) (o 2) (o 3) sn vl (nI bl) (a 0) (a 1) (a 2) (a 3) (a 4) (a 5) (a 6) (a 7) (nI (14 * bl)) (nI u) (nI i) kc ks sl it (nI b) (nI n) (nI c) st pr rf lt li lk lv so fu 0 := by
  refine pk_loop (σ := Unit) (fun m x _ => wL_law_1111 post L xs J61 J123 hd (nI y) (nI nn) (o 0) (o 1) (o 2) (o 3) sn vl (nI bl) (a 0) (a 1) (a 2) (a 3) (a 4) (a 5) (a 6) (a 7) (nI (14 * bl)) (nI u) (nI i) kc ks sl it (nI b) (nI n) (nI c) st pr rf lt li lk lv so m (nI x)) (fun _ _ => True) y 0 () (Nat.zero_le y) trivial ?_ ?_
  · intro m _ _
    exact pk_le y y (fun _ => gl_1151 h hLL hbl hi hy hb56 hsn hrec k) (fun h => absurd h (by omega))
  · intro m x _ hx _ k'
    refine pk_le y x (fun h => absurd h (by omega)) (fun _ => ?_)
    refine gx_settledValue h.2.1 h.1.2.1 (by have := h.1.1; omega) hi hx (by omega) ?_
    rw [gl_10x, gp_get10 (show 10 * x < 64 by omega)]
    exact br_t ((gp_R3 h (nI x)).trans (hvl x hx).symm) (nm_r (nI_1 x) (k' () trivial))
end
end
section
/-! the newly settled: recording and replay -/
/-- what step j of block bl entered as entry e, its answer being s -/
def gl_En (L : Nat) (xs : Nat → Int32) (y bl j e s : Nat) (T : Nat → Nat) (X K A lv : Nat → Int32) : Prop :=
  T e = 14 * bl + gl_rel j (gl_c L xs (32 * bl + j)) ∧ X e = nI (gl_item (gl_p L xs (32 * bl + j)) (gl_c L xs (32 * bl + j)) y) ∧ s < 1000 ∧
    ((gl_p L xs (32 * bl + j) % 8 / 2 = 0 ∧ K e = 1 ∧ lv e = nI s) ∨ (gl_p L xs (32 * bl + j) % 8 / 2 = 1 ∧ K e = 2 ∧ A e = nI (gl_am (gl_p L xs (32 * bl + j)) (gl_c L xs (32 * bl + j)) (32 * bl + j))) ∨
      (gl_p L xs (32 * bl + j) % 8 / 2 = 2 ∧ K e = 3 ∧ A e = nI (gl_am (gl_p L xs (32 * bl + j)) (gl_c L xs (32 * bl + j)) (32 * bl + j)) ∧ lv e = nI s))
/-- the steps of block bl and the log: N j entries ahead of step j -/
def gl_N (L : Nat) (xs : Nat → Int32) (y bl n : Nat) (N T : Nat → Nat) (X K A lv : Nat → Int32) (a : Nat → Int64) : Prop :=
  N 32 = n ∧ (∀ e, e < N 0 → T e ≤ 14 * bl) ∧ (∀ j, j ≤ 32 → N j ≤ n) ∧ ∀ j, j < 32 → (gp_w8 a j % 1024 = 1023 ∧ N (j + 1) = N j) ∨ (N (j + 1) = N j + 1 ∧ gl_En L xs y bl j (N j) (gp_w8 a j % 1024) T X K A lv)
theorem gl_k7 {p : Nat} (hp : p < 65536) : (nI p &&& 7) >>> ((1 : Int32) &&& 31) = nI (p % 8 / 2) := by
  rw [pk_andN (by omega) 3 (by decide)]
  exact pk_shrN (by omega) _ 1 (by decide)
section
variable {post : Int32 → Prop} {L : Nat} {xs : Nat → Int32} {J61 : Int64 → Int64 → Int64 → Int64 → Int64 → Int64 → Int32 → Int32 → Int32 → Int32 → Int32 → Int32 → (Nat → Int32) → (Nat → Int64) → (Nat → Int64) → (Nat → Int32) → (Nat → Int32) → (Nat → Int32) → (Nat → Int32) → (Nat → Int32) → Prop} {J123 : Int64 → Int64 → Int64 → Int64 → Int64 → Int64 → Int64 → Int64 → Int64 → Int64 → Int64 → Int64 → Int64 → Int64 → Int32 → Int32 → Int32 → Int32 → Int32 → Int32 → Int32 → (Nat → Int32) → (Nat → Int64) → (Nat → Int64) → (Nat → Int32) → (Nat → Int32) → (Nat → Int32) → (Nat → Int32) → (Nat → Int32) → Prop} {hd : Int32} {y nn bl u i kc ks : Nat} {o a : Nat → Int64} {sn vl : Int64} {sl it : Int32} {b n c : Nat} {st : Nat → Int32} {pr rf : Nat → Int64} {lt li lk lv so : Nat → Int32} {T : Nat → Nat} {X K A : Nat → Int32} {F : Nat → Nat → Prop} {q : Nat → Nat} {N : Nat → Nat}
/-- one entry replayed: field x of the values becomes v -/
theorem gl_rp {kk e itm v : Nat} {w : Int64} (hy : y ≤ 4) (hT : T e = q kk) (hX : X e = nI itm) (him : itm < y) (hv : v < 1024)
    (hw : ∀ x, x < y → nI (gp_fd w (10 * x) 10) = gs_val (gp_sv q kk n T X K lv (nI x)) lv (gs_lst (gs_Wt T X K (q kk) (nI x)) e))
    (hk : (¬ K e &&& 2 = 0 ∧ lv e = nI v) ∨ (K e &&& 2 = 0 ∧ v = gp_fd w (10 * itm) 10)) :
    ∀ x, x < y → nI (gp_fd (gp_put w (10 * itm) 10 v) (10 * x) 10) = gs_val (gp_sv q kk n T X K lv (nI x)) lv (gs_lst (gs_Wt T X K (q kk) (nI x)) (e + 1)) := by
  intro x hx
  by_cases ex : x = itm
  · subst ex
    rw [gp_put_s (by omega) hv]
    rcases hk with ⟨a1, a2⟩ | ⟨a1, a2⟩
    · rw [gs_lst_t ⟨hT, hX, a1⟩]
      exact a2.symm
    · rw [gs_lst_f (fun z => z.2.2 a1), a2]
      exact hw x hx
  · rw [gp_put_o (by omega) hv (by omega), gs_lst_f (fun z => ?_)]
    · exact hw x hx
    · have := z.2.1
      rw [hX] at this
      exact ex ((nI_eq (by omega) (by omega)).mp this).symm
theorem gl_884 {J745 : Int64 → Int64 → Int64 → Int64 → Int64 → Int64 → Int32 → Int32 → Int32 → Prop} {kk qq sr : Nat} (h : gp_J b n c st so pr rf T X K lt li lk lv A F q) (hLL : L ≤ 260) (hbl : bl < 4) (hy1 : 1 ≤ y) (hy : y ≤ 4) (hN : gl_N L xs y bl n N T X K A lv a) (hkk : kk < c) (hq : q kk = 14 * bl + sr) (hsr : 1 ≤ sr) (hsr2 : sr ≤ 14)
    (hvl : ∀ x, x < y → nI (gp_fd vl (10 * x) 10) = gp_sv q kk n T X K lv (nI x))
    (k : ∀ w, (∀ x, x < y → nI (gp_fd w (10 * x) 10) = gp_sv q (kk + 1) n T X K lv (nI x)) → J745 (o 0) (o 1) (o 2) (o 3) sn w (nI u) (nI (kk + 1)) (nI (qq + 1))) :
    ∃ fu, wL_law_884 post L xs J61 J123 J745 hd (nI y) (nI nn) (o 0) (o 1) (o 2) (o 3) sn (nI bl) (a 0) (a 1) (a 2) (a 3) (a 4) (a 5) (a 6) (a 7) (nI (14 * bl)) (nI u) (nI i) (nI kk) (nI qq) (nI sr) kc ks sl it (nI b) (nI n) (nI c) st pr rf lt li lk lv so fu vl 0 := by
  obtain ⟨N32, N0, Nn, Ns⟩ := hN
  refine pk_loop (σ := Int64) (fun m j w => wL_law_884 post L xs J61 J123 J745 hd (nI y) (nI nn) (o 0) (o 1) (o 2) (o 3) sn (nI bl) (a 0) (a 1) (a 2) (a 3) (a 4) (a 5) (a 6) (a 7) (nI (14 * bl)) (nI u) (nI i) (nI kk) (nI qq) (nI sr) kc ks sl it (nI b) (nI n) (nI c) st pr rf lt li lk lv so m w (nI j))
    (fun j w => ∀ x, x < y → nI (gp_fd w (10 * x) 10) = gs_val (gp_sv q kk n T X K lv (nI x)) lv (gs_lst (gs_Wt T X K (q kk) (nI x)) (N j))) 32 0 vl (Nat.zero_le 32) ?_ ?_ ?_
  · intro x hx
    rw [gp_lst_n0 (fun e he z => ?_)]
    · exact hvl x hx
    · have := N0 e he
      have := z.1
      omega
  · intro m w hw
    refine pk_le 32 32 (fun _ => nm_r (nI_1 qq) (nm_r (nI_1 kk) (k w (fun x hx => ?_)))) (fun h => absurd h (by omega))
    rw [hw x hx, N32, gp_R2 h hkk]
  · intro m j w hj hw k'
    have hp := gl_p_lt L xs (32 * bl + j)
    have hdd := gl_c_lt L xs (32 * bl + j)
    have stp := Ns j hj
    refine pk_le 32 j (fun h => absurd h (by omega)) (fun _ => nm_r (gl_g bl j) ?_)
    rw [gl_j1]
    refine gl_cellW hLL (by omega) (nm_r (gl_p_e L xs (32 * bl + j)) ?_)
    rw [gl_j2]
    refine gl_cellW hLL (by omega) (nm_r (gl_c_e L xs (32 * bl + j)) ?_)
    refine gp_sel hj (nm_r (nx_1023 _) ?_)
    refine pk_eq (gp_w8 a j % 1024) 1023 (fun e => ?_) (fun ne => ?_)
    · refine nm_r (nI_1 j) (k' w ?_)
      rcases stp with ⟨_, z⟩ | ⟨_, z⟩
      · rw [z]
        exact hw
      · have := z.2.2.1
        omega
    · rcases stp with ⟨z, _⟩ | ⟨en, eT, eX, es, ek⟩
      · exact absurd z ne
      · have hr : gl_rel j (gl_c L xs (32 * bl + j)) < 100 := by unfold gl_rel; omega
        refine gl_relW (by omega) hdd ?_
        refine pk_eq (gl_rel j (gl_c L xs (32 * bl + j))) sr (fun e => ?_) (fun e => ?_)
        · have him : gl_item (gl_p L xs (32 * bl + j)) (gl_c L xs (32 * bl + j)) y < y := Nat.mod_lt _ (by omega)
          refine gl_itemW hp hdd hy1 hy (nm_r (gl_10x _) (gl_amW hp hdd (by omega) (nm_r (gl_k7 hp) ?_)))
          rw [gp_get10 (show 10 * gl_item (gl_p L xs (32 * bl + j)) (gl_c L xs (32 * bl + j)) y < 64 by omega)]
          refine nm_e ?_
          have hTq : T (N j) = q kk := by rw [eT, hq, e]
          have hen : N j < n := by have := Nn (j + 1) (by omega); omega
          have ham : gl_am (gl_p L xs (32 * bl + j)) (gl_c L xs (32 * bl + j)) (32 * bl + j) < 1000 := Nat.mod_lt _ (by decide)
          have hw0 := hw _ him
          have r1 := gp_R1 h hkk hen hTq
          rw [eX, ← hw0] at r1
          have v1 := h.2.2.2.2.2.2.2.2.2.2.2.1 (N j) hen (by rw [hTq]; exact gp_q4 h hkk)
          rw [eX, r1] at v1
          have hfl := gp_fd_lt w (10 * gl_item (gl_p L xs (32 * bl + j)) (gl_c L xs (32 * bl + j)) y) 10
          have hf3 : gp_fd w (10 * gl_item (gl_p L xs (32 * bl + j)) (gl_c L xs (32 * bl + j)) y) 10 < 1000 := by
            obtain ⟨z, z1, z2⟩ := gp_cv (lv := lv) (n := N j) (P := gs_Wr T X K st (nI (gl_item (gl_p L xs (32 * bl + j)) (gl_c L xs (32 * bl + j)) y))) (fun j' hj' => h.2.2.2.1 j' (by omega))
            rw [r1] at z2
            have := (nI_eq (by omega) (by omega)).mp z2
            omega
          have put : ∀ v, v < 1024 → ((¬ K (N j) &&& 2 = 0 ∧ lv (N j) = nI v) ∨ (K (N j) &&& 2 = 0 ∧ v = gp_fd w (10 * gl_item (gl_p L xs (32 * bl + j)) (gl_c L xs (32 * bl + j)) y) 10)) →
              wL_law_1071 post L xs J61 J123 J745 (wL_law_884 post L xs J61 J123 J745 hd (nI y) (nI nn) (o 0) (o 1) (o 2) (o 3) sn (nI bl) (a 0) (a 1) (a 2) (a 3) (a 4) (a 5) (a 6) (a 7) (nI (14 * bl)) (nI u) (nI i) (nI kk) (nI qq) (nI sr) kc ks sl it (nI b) (nI n) (nI c) st pr rf lt li lk lv so m) hd (nI y) (nI nn) (o 0) (o 1) (o 2) (o 3) sn w (nI bl) (a 0) (a 1) (a 2) (a 3) (a 4) (a 5) (a 6) (a 7) (nI (14 * bl)) (nI u) (nI i) (nI kk) (nI qq) (nI sr) (nI j) (nI (10 * gl_item (gl_p L xs (32 * bl + j)) (gl_c L xs (32 * bl + j)) y)) (nI v) kc ks sl it (nI b) (nI n) (nI c) st pr rf lt li lk lv so := by
            intro v hv hk
            unfold wL_law_1071
            refine nm_r (gp_set10 (by omega) hv) (nm_r (nI_1 j) (k' _ ?_))
            rw [en]
            exact gl_rp hy hTq eX him hv hw hk
          rcases ek with ⟨e0, eK, el⟩ | ⟨e0, eK, eA⟩ | ⟨e0, eK, eA, el⟩
          · rw [e0]
            refine br_f (by decide) (br_f (by decide) ?_)
            unfold wL_law_1056
            refine br_f (by decide) (br_t ?_ (put _ (by omega) (Or.inr ⟨by rw [eK]; decide, rfl⟩)))
            rw [← el, v1, eK]
            unfold gp_ap
            rw [if_pos rfl]
          · rw [e0]
            refine br_t rfl ?_
            unfold wL_law_1056
            refine br_t rfl (put _ (by omega) (Or.inl ⟨by rw [eK]; decide, ?_⟩))
            rw [v1, eK, eA]
            unfold gp_ap
            rw [if_neg (show ¬ (2 : Int32) = 1 by decide), if_pos rfl]
          · have e3 := gp_ap3 hf3 ham
            rw [eK, eA, e3] at v1
            rw [e0]
            refine br_f (by decide) (br_t rfl ⟨by decide, nm_r (e' := nI ((gp_fd w (10 * gl_item (gl_p L xs (32 * bl + j)) (gl_c L xs (32 * bl + j)) y) 10 + gl_am (gl_p L xs (32 * bl + j)) (gl_c L xs (32 * bl + j)) (32 * bl + j)) % 1000)) ?_ ?_⟩)
            · rw [← e3]
              unfold gp_ap
              rw [if_neg (show ¬ (3 : Int32) = 1 by decide), if_neg (show ¬ (3 : Int32) = 2 by decide)]
            · unfold wL_law_1056
              refine br_f (by decide) (br_t (el.symm.trans v1) (put _ (by omega) (Or.inl ⟨by rw [eK]; decide, v1⟩)))
        · refine nm_r (nI_1 j) (k' w ?_)
          intro x hx
          rw [en, gs_lst_f (fun z => ?_)]
          · exact hw x hx
          · have := z.1
            rw [eT, hq] at this
            omega
end
end
section
/-! the recorded order -/
def gl_C (bl c : Nat) (cs q : Nat → Nat) : Prop :=
  cs 0 = 0 ∧ (∀ e, e < bl → cs e ≤ cs (e + 1) ∧ cs (e + 1) ≤ cs e + 14 ∧ ∀ k, cs e ≤ k → k < cs (e + 1) → 14 * e < q k ∧ q k ≤ 14 * e + 14) ∧ cs bl ≤ c ∧ c ≤ cs bl + 14 ∧ (∀ k, cs bl ≤ k → k < c → 14 * bl < q k ∧ q k ≤ 14 * bl + 14)
def gl_m (bl kk : Nat) (cs : Nat → Nat) (e : Nat) : Nat := if e < bl then cs (e + 1) - cs e else if e = bl then kk - cs bl else 0
theorem gl_m_l {bl kk e : Nat} {cs : Nat → Nat} (h : e < bl) : gl_m bl kk cs e = cs (e + 1) - cs e := if_pos h
theorem gl_m_e {bl kk : Nat} {cs : Nat → Nat} : gl_m bl kk cs bl = kk - cs bl := by
  unfold gl_m
  rw [if_neg (by omega), if_pos rfl]
theorem gl_m_n {bl kk kk' e : Nat} {cs : Nat → Nat} (h : e ≠ bl) : gl_m bl kk cs e = gl_m bl kk' cs e := by
  unfold gl_m
  rw [if_neg h, if_neg h]
def gl_O (bl kk : Nat) (cs q : Nat → Nat) (o : Nat → Int64) : Prop := ∀ e, e < 4 → o e = lN (gp_nb (fun k => q k - 14 * e) (cs e) (gl_m bl kk cs e))
theorem gl_C_mono {bl c : Nat} {cs q : Nat → Nat} (hC : gl_C bl c cs q) (e : Nat) (he : e ≤ bl) : cs e ≤ cs bl := by
  have h : ∀ d e, e + d = bl → cs e ≤ cs bl := by
    intro d
    induction d with
    | zero => intro e he; rw [show e = bl by omega]; exact Nat.le_refl _
    | succ d ih =>
      intro e he
      exact Nat.le_trans (hC.2.1 e (by omega)).1 (ih (e + 1) (by omega))
  exact h (bl - e) e (by omega)
section
variable {post : Int32 → Prop} {L : Nat} {xs : Nat → Int32} {J61 : Int64 → Int64 → Int64 → Int64 → Int64 → Int64 → Int32 → Int32 → Int32 → Int32 → Int32 → Int32 → (Nat → Int32) → (Nat → Int64) → (Nat → Int64) → (Nat → Int32) → (Nat → Int32) → (Nat → Int32) → (Nat → Int32) → (Nat → Int32) → Prop} {J123 : Int64 → Int64 → Int64 → Int64 → Int64 → Int64 → Int64 → Int64 → Int64 → Int64 → Int64 → Int64 → Int64 → Int64 → Int32 → Int32 → Int32 → Int32 → Int32 → Int32 → Int32 → (Nat → Int32) → (Nat → Int64) → (Nat → Int64) → (Nat → Int32) → (Nat → Int32) → (Nat → Int32) → (Nat → Int32) → (Nat → Int32) → Prop} {hd : Int32} {y nn bl u i kc ks : Nat} {o a : Nat → Int64} {sn vl : Int64} {sl it : Int32} {b n c : Nat} {st : Nat → Int32} {pr rf : Nat → Int64} {lt li lk lv so : Nat → Int32} {T : Nat → Nat} {X K A : Nat → Int32} {F : Nat → Nat → Prop} {q : Nat → Nat} {N cs : Nat → Nat}
theorem gl_745 {k0 : Nat} (h : gp_J b n c st so pr rf T X K lt li lk lv A F q) (hLL : L ≤ 260) (hbl : bl < 4) (hi : it = nI y) (hy1 : 1 ≤ y) (hy : y ≤ 4) (hb56 : b ≤ 56) (hN : gl_N L xs y bl n N T X K A lv a) (hC : gl_C bl c cs q) (hk0 : cs bl ≤ k0) (hk1 : k0 ≤ c)
    (hO : gl_O bl k0 cs q o) (hsn : ∀ t, 1 ≤ t → t ≤ 62 → (gs_m sn (t + 1) ↔ ∃ m, m < k0 ∧ q m = t)) (hvl : ∀ x, x < y → nI (gp_fd vl (10 * x) 10) = gp_sv q k0 n T X K lv (nI x))
    (hrec : ∀ j, j < 32 → gp_w8 a j / 1024 ≠ 0 → F (14 * bl + gl_rel j (gl_c L xs (32 * bl + j))) (14 * bl + gp_w8 a j / 1024))
    (k : ∀ o sn vl, gl_O bl c cs q o → (∀ t, 1 ≤ t → t ≤ 62 → (gs_m sn (t + 1) ↔ ∃ m, m < c ∧ q m = t)) → (∀ x, x < y → nI (gp_fd vl (10 * x) 10) = gp_sv q c n T X K lv (nI x)) → J123 (o 0) (o 1) (o 2) (o 3) sn vl (a 0) (a 1) (a 2) (a 3) (a 4) (a 5) (a 6) (a 7) (nI (c - cs bl)) (nI (i + 1)) sl it (nI b) (nI n) (nI c) st pr rf lt li lk lv so) :
    ∃ fu, wL_law_745 post L xs J61 J123 hd (nI y) (nI nn) (nI bl) (a 0) (a 1) (a 2) (a 3) (a 4) (a 5) (a 6) (a 7) (nI (14 * bl)) (nI i) kc ks sl it (nI b) (nI n) (nI c) st pr rf lt li lk lv so fu (o 0) (o 1) (o 2) (o 3) sn vl (nI (k0 - cs bl)) (nI k0) 0 := by
  have hQ := h.2.2.2.2.2.2.2.2.1
  have hc64 := h.1.2.2
  have key : ∃ fu, wL_law_745 post L xs J61 J123 hd (nI y) (nI nn) (nI bl) (a 0) (a 1) (a 2) (a 3) (a 4) (a 5) (a 6) (a 7) (nI (14 * bl)) (nI i) kc ks sl it (nI b) (nI n) (nI c) st pr rf lt li lk lv so fu (o 0) (o 1) (o 2) (o 3) sn vl (nI (k0 - cs bl)) (nI k0) (nI (k0 - k0)) := by
    refine pk_loop (σ := (Nat → Int64) × Int64 × Int64) (fun m kk s => wL_law_745 post L xs J61 J123 hd (nI y) (nI nn) (nI bl) (a 0) (a 1) (a 2) (a 3) (a 4) (a 5) (a 6) (a 7) (nI (14 * bl)) (nI i) kc ks sl it (nI b) (nI n) (nI c) st pr rf lt li lk lv so m (s.1 0) (s.1 1) (s.1 2) (s.1 3) s.2.1 s.2.2 (nI (kk - cs bl)) (nI kk) (nI (kk - k0)))
      (fun kk s => k0 ≤ kk ∧ gl_O bl kk cs q s.1 ∧ (∀ t, 1 ≤ t → t ≤ 62 → (gs_m s.2.1 (t + 1) ↔ ∃ m, m < kk ∧ q m = t)) ∧ (∀ x, x < y → nI (gp_fd s.2.2 (10 * x) 10) = gp_sv q kk n T X K lv (nI x))) c k0 (o, sn, vl) hk1 ⟨Nat.le_refl k0, hO, hsn, hvl⟩ ?_ ?_
    · rintro m ⟨o, sn, vl⟩ ⟨_, gO, gs, gv⟩
      dsimp only at gO gs gv ⊢
      have gs' : ∀ t, 1 ≤ t → t ≤ b → (gs_m sn (t + 1) ↔ st t = 4) := by
        intro t t1 t2
        rw [gs t t1 (by omega)]
        constructor
        · rintro ⟨m, hm, rfl⟩
          exact (hQ.2.1 m hm).2.2
        · exact hQ.2.2.2.1 t t1 t2
      refine pk_le 15 (c - k0) (fun z => absurd z (by have := hC.2.2.2.1; omega)) (fun _ => ?_)
      exact gx_settledAt hc64 (by omega) (fun z => absurd z (by omega)) (fun _ => br_t rfl (gl_1111 h hLL hbl hi hy hb56 gs' gv hrec (k o sn vl gO gs gv)))
    · rintro m kk ⟨o, sn, vl⟩ hkk ⟨gk, gO, gs, gv⟩ k'
      dsimp only at gO gs gv k' ⊢
      have hso := hQ.2.1 kk hkk
      have hr := hC.2.2.2.2 kk (by omega) hkk
      have h14 := hC.2.2.2.1
      obtain ⟨sr, hsr⟩ : ∃ sr, sr = q kk - 14 * bl := ⟨_, rfl⟩
      refine pk_le 15 (kk - k0) (fun z => absurd z (by omega)) (fun _ => ?_)
      refine gx_settledAt hc64 (by omega) (fun _ => ?_) (fun z => absurd z (by omega))
      rw [hso.1]
      refine br_f (nI_ne0 (by omega) (by omega)) (gx_settledAt hc64 (by omega) (fun _ => ?_) (fun z => absurd z (by omega)))
      rw [hso.1]
      refine nm_r (e' := nI sr) (by rw [hsr]; exact pk_sub (by omega)) ?_
      refine pk_lt sr 1 (fun z => absurd z (by omega)) (fun _ => pk_lt 14 sr (fun z => absurd z (by omega)) (fun _ => ?_))
      rw [gp_bit (show q kk < 64 by omega)]
      refine br_t (fun z => ?_) ?_
      · obtain ⟨m', hm', em⟩ := (gs (q kk) hso.2.1.1 (by omega)).mp z
        have := hQ.2.2.1 m' kk (by omega) hkk em
        omega
      · have eb : (nI sr).toInt64 <<< ((4 * nI (kk - cs bl)).toInt64 &&& 63) = lN (sr * 2 ^ (4 * (kk - cs bl))) := by
          have e4 : (4 : Int32) * nI (kk - cs bl) = nI (4 * (kk - cs bl)) := pk_mul 4 _
          rw [e4, nI_l (show sr < 2 ^ 31 by omega), wb_shl _ (show 4 * (kk - cs bl) < 64 by omega)]
        have eu : nI (kk - cs bl) + 1 = nI (kk + 1 - cs bl) := by rw [nI_1, show kk - cs bl + 1 = kk + 1 - cs bl by omega]
        refine nm_e (nm_r eb (nm_r eu ?_))
        obtain ⟨o', ho'⟩ : ∃ o' : Nat → Int64, o' = fun e => if e = bl then o e ||| lN (sr * 2 ^ (4 * (kk - cs bl))) else o e := ⟨_, rfl⟩
        have o1 : ∀ e, e = bl → o e ||| lN (sr * 2 ^ (4 * (kk - cs bl))) = o' e := fun e he => by rw [ho']; exact (if_pos he).symm
        have o0 : ∀ e, e ≠ bl → o' e = o e := fun e he => by rw [ho']; exact if_neg he
        have gO' : gl_O bl (kk + 1) cs q o' := by
          intro e he
          by_cases eb : e = bl
          · subst eb
            rw [← o1 e rfl, gO e he, gl_m_e, gl_m_e, show kk + 1 - cs e = kk - cs e + 1 by omega, gp_nb_s]
            have ef : q (cs e + (kk - cs e)) - 14 * e = sr := by rw [show cs e + (kk - cs e) = kk by omega, hsr]
            have hlt := gp_nb_lt (f := fun k => q k - 14 * e) (m := kk - cs e) (cs e) (fun j j1 j2 => by have := hC.2.2.2.2 j j1 (by omega); show q j - 14 * e < 16; omega)
            have hlt2 := gp_nb_lt (f := fun k => q k - 14 * e) (m := kk - cs e + 1) (cs e) (fun j j1 j2 => by have := hC.2.2.2.2 j j1 (by omega); show q j - 14 * e < 16; omega)
            rw [gp_nb_s] at hlt2
            rw [ef] at hlt2 ⊢
            have hpw : 2 ^ (4 * (kk - cs e + 1)) ≤ 2 ^ 60 := Nat.pow_le_pow_right (by decide) (by omega)
            exact g_or' rfl hlt (by omega)
          · rw [o0 e eb, gl_m_n eb (kk' := kk)]
            exact gO e he
        have key : ∃ fu, wL_law_884 post L xs J61 J123 (wL_law_745 post L xs J61 J123 hd (nI y) (nI nn) (nI bl) (a 0) (a 1) (a 2) (a 3) (a 4) (a 5) (a 6) (a 7) (nI (14 * bl)) (nI i) kc ks sl it (nI b) (nI n) (nI c) st pr rf lt li lk lv so m) hd (nI y) (nI nn) (o' 0) (o' 1) (o' 2) (o' 3) (sn ||| ((1 : Int64) <<< ((nI (q kk)).toInt64 &&& 63))) (nI bl) (a 0) (a 1) (a 2) (a 3) (a 4) (a 5) (a 6) (a 7) (nI (14 * bl)) (nI (kk + 1 - cs bl)) (nI i) (nI kk) (nI (kk - k0)) (nI sr) kc ks sl it (nI b) (nI n) (nI c) st pr rf lt li lk lv so fu vl 0 := by
          refine gl_884 h hLL hbl hy1 hy hN hkk (by omega) (by omega) (by omega) gv (fun w hw => ?_)
          rw [show kk - k0 + 1 = kk + 1 - k0 by omega]
          refine k' (o', sn ||| ((1 : Int64) <<< ((nI (q kk)).toInt64 &&& 63)), w) ⟨by omega, gO', fun t t1 t2 => ?_, hw⟩
          rw [gp_bitS (show q kk < 64 by omega), gs t t1 t2]
          constructor
          · rintro (⟨m', hm', em⟩ | e)
            · exact ⟨m', by omega, em⟩
            · exact ⟨kk, by omega, by omega⟩
          · rintro ⟨m', hm', em⟩
            by_cases e : m' = kk
            · subst e
              exact Or.inr (by omega)
            · exact Or.inl ⟨m', by omega, em⟩
        refine pk_eq bl 0 (fun e => nm_r (o1 0 e.symm) ?_) (fun n0 => pk_eq bl 1 (fun e => nm_r (o1 1 e.symm) ?_) (fun n1 => pk_eq bl 2 (fun e => nm_r (o1 2 e.symm) ?_) (fun n2 => nm_r (o1 3 (by omega)) ?_)))
        · rw [o0 1 (by omega), o0 2 (by omega), o0 3 (by omega)] at key
          exact key
        · rw [o0 0 (by omega), o0 2 (by omega), o0 3 (by omega)] at key
          exact key
        · rw [o0 0 (by omega), o0 1 (by omega), o0 3 (by omega)] at key
          exact key
        · rw [o0 0 (by omega), o0 1 (by omega), o0 2 (by omega)] at key
          exact key
  rw [Nat.sub_self] at key
  exact key
theorem gl_692 {J649 : Int32 → Int32 → Prop} {e M k1 : Nat} {f : Nat → Nat} (h : gp_J b n c st so pr rf T X K lt li lk lv A F q) (he : e < 4) (hM : M ≤ 14) (hk : k1 + M ≤ c) (hf : ∀ k, k1 ≤ k → k < k1 + M → q k = 14 * e + f k ∧ 1 ≤ f k ∧ f k ≤ 14) (k : J649 (nI (k1 + M)) (nI (e + 1))) :
    ∃ fu, wL_law_692 post L xs J61 J123 J649 hd (nI y) (nI nn) (o 0) (o 1) (o 2) (o 3) sn vl (nI bl) (a 0) (a 1) (a 2) (a 3) (a 4) (a 5) (a 6) (a 7) (nI (14 * bl)) (nI u) (nI i) (nI e) kc ks sl it (nI b) (nI n) (nI c) st pr rf lt li lk lv so fu (nI k1) (lN (gp_nb f k1 M)) := by
  have hQ := h.2.2.2.2.2.2.2.2.1
  have hc64 := h.1.2.2
  refine pk_loop (σ := Unit) (fun m j _ => wL_law_692 post L xs J61 J123 J649 hd (nI y) (nI nn) (o 0) (o 1) (o 2) (o 3) sn vl (nI bl) (a 0) (a 1) (a 2) (a 3) (a 4) (a 5) (a 6) (a 7) (nI (14 * bl)) (nI u) (nI i) (nI e) kc ks sl it (nI b) (nI n) (nI c) st pr rf lt li lk lv so m (nI (k1 + j)) (lN (gp_nb f (k1 + j) (M - j)))) (fun _ _ => True) M 0 () (Nat.zero_le M) trivial ?_ ?_
  · intro m _ _
    rw [Nat.sub_self]
    exact br_t rfl (nm_r (nI_1 e) k)
  · intro m j _ hj _ k'
    have fk := hf (k1 + j) (by omega) (by omega)
    have hlt := gp_nb_lt (f := f) (m := M - j) (k1 + j) (fun j' j1 j2 => by have := hf j' (by omega) (by omega); omega)
    have hpw : 2 ^ (4 * (M - j)) ≤ 2 ^ 56 := Nat.pow_le_pow_right (by decide) (by omega)
    have en : gp_nb f (k1 + j) (M - j) = f (k1 + j) + 16 * gp_nb f (k1 + (j + 1)) (M - (j + 1)) := by
      rw [show M - j = M - (j + 1) + 1 by omega]
      rfl
    refine br_f (fun z => ?_) ?_
    · have := (pk_lEQ (b := 0) (by omega) (by omega)).mp z
      omega
    · have nx := k' () trivial
      refine gx_settledAt hc64 (by omega) (fun _ => ?_) (fun z => absurd z (by omega))
      rw [(hQ.2.1 (k1 + j) (by omega)).1]
      have e15 : lN (gp_nb f (k1 + j) (M - j)) &&& 15 = lN (f (k1 + j)) := by
        have e1 := wb_mask (n := gp_nb f (k1 + j) (M - j)) (k := 4) (by omega) (by omega)
        have e2 : gp_nb f (k1 + j) (M - j) % 2 ^ 4 = f (k1 + j) := by rw [en]; omega
        rw [e2] at e1
        exact e1
      have e14 : (14 : Int32) * nI e = nI (14 * e) := pk_mul 14 e
      have es : ((lN (gp_nb f (k1 + j) (M - j))).toUInt64 >>> ((4 : Int32).toInt64.toUInt64 &&& Int64.toUInt64 63)).toInt64 = lN (gp_nb f (k1 + (j + 1)) (M - (j + 1))) := by
        have e1 := wb_shr (n := gp_nb f (k1 + j) (M - j)) (k := 4) (by omega) (by omega)
        have e2 : gp_nb f (k1 + j) (M - j) / 2 ^ 4 = gp_nb f (k1 + (j + 1)) (M - (j + 1)) := by rw [en]; omega
        rw [e2] at e1
        exact e1
      rw [e15, lN_i, e14, nI_add]
      refine br_t (by rw [fk.1]) (nm_r es (nm_r (nI_1 (k1 + j)) nx))
theorem gl_649 {k0 : Nat} (h : gp_J b n c st so pr rf T X K lt li lk lv A F q) (hLL : L ≤ 260) (hbl : bl < 4) (hi : it = nI y) (hy1 : 1 ≤ y) (hy : y ≤ 4) (hb56 : b ≤ 56) (hN : gl_N L xs y bl n N T X K A lv a) (hC : gl_C bl c cs q) (hk0 : cs bl ≤ k0) (hk1 : k0 ≤ c) (hu : u = k0 - cs bl)
    (hO : gl_O bl k0 cs q o) (hsn : ∀ t, 1 ≤ t → t ≤ 62 → (gs_m sn (t + 1) ↔ ∃ m, m < k0 ∧ q m = t)) (hvl : ∀ x, x < y → nI (gp_fd vl (10 * x) 10) = gp_sv q k0 n T X K lv (nI x))
    (hrec : ∀ j, j < 32 → gp_w8 a j / 1024 ≠ 0 → F (14 * bl + gl_rel j (gl_c L xs (32 * bl + j))) (14 * bl + gp_w8 a j / 1024))
    (k : ∀ o sn vl, gl_O bl c cs q o → (∀ t, 1 ≤ t → t ≤ 62 → (gs_m sn (t + 1) ↔ ∃ m, m < c ∧ q m = t)) → (∀ x, x < y → nI (gp_fd vl (10 * x) 10) = gp_sv q c n T X K lv (nI x)) → J123 (o 0) (o 1) (o 2) (o 3) sn vl (a 0) (a 1) (a 2) (a 3) (a 4) (a 5) (a 6) (a 7) (nI (c - cs bl)) (nI (i + 1)) sl it (nI b) (nI n) (nI c) st pr rf lt li lk lv so) :
    ∃ fu, wL_law_649 post L xs J61 J123 hd (nI y) (nI nn) (o 0) (o 1) (o 2) (o 3) sn vl (nI bl) (a 0) (a 1) (a 2) (a 3) (a 4) (a 5) (a 6) (a 7) (nI (14 * bl)) (nI u) (nI i) kc ks sl it (nI b) (nI n) (nI c) st pr rf lt li lk lv so fu 0 0 := by
  have key : ∃ fu, wL_law_649 post L xs J61 J123 hd (nI y) (nI nn) (o 0) (o 1) (o 2) (o 3) sn vl (nI bl) (a 0) (a 1) (a 2) (a 3) (a 4) (a 5) (a 6) (a 7) (nI (14 * bl)) (nI u) (nI i) kc ks sl it (nI b) (nI n) (nI c) st pr rf lt li lk lv so fu (nI (if 0 ≤ bl then cs 0 else k0)) (nI 0) := by
    refine pk_loop (σ := Unit) (fun m e _ => wL_law_649 post L xs J61 J123 hd (nI y) (nI nn) (o 0) (o 1) (o 2) (o 3) sn vl (nI bl) (a 0) (a 1) (a 2) (a 3) (a 4) (a 5) (a 6) (a 7) (nI (14 * bl)) (nI u) (nI i) kc ks sl it (nI b) (nI n) (nI c) st pr rf lt li lk lv so m (nI (if e ≤ bl then cs e else k0)) (nI e)) (fun _ _ => True) (bl + 1) 0 () (Nat.zero_le _) trivial ?_ ?_
    · intro m _ _
      refine pk_lt bl (bl + 1) (fun _ => ?_) (fun z => absurd z (by omega))
      rw [if_neg (show ¬ bl + 1 ≤ bl by omega), hu]
      exact gl_745 h hLL hbl hi hy1 hy hb56 hN hC hk0 hk1 hO hsn hvl hrec k
    · intro m e _ he _ k'
      have nx := k' () trivial
      have mono := gl_C_mono hC
      have key : ∃ fu, wL_law_692 post L xs J61 J123 (wL_law_649 post L xs J61 J123 hd (nI y) (nI nn) (o 0) (o 1) (o 2) (o 3) sn vl (nI bl) (a 0) (a 1) (a 2) (a 3) (a 4) (a 5) (a 6) (a 7) (nI (14 * bl)) (nI u) (nI i) kc ks sl it (nI b) (nI n) (nI c) st pr rf lt li lk lv so m) hd (nI y) (nI nn) (o 0) (o 1) (o 2) (o 3) sn vl (nI bl) (a 0) (a 1) (a 2) (a 3) (a 4) (a 5) (a 6) (a 7) (nI (14 * bl)) (nI u) (nI i) (nI e) kc ks sl it (nI b) (nI n) (nI c) st pr rf lt li lk lv so fu (nI (cs e)) (o e) := by
        rw [hO e (by omega)]
        by_cases eb : e = bl
        · subst eb
          rw [if_neg (by omega)] at nx
          rw [gl_m_e]
          refine gl_692 h (by omega) (by have := hC.2.2.2.1; omega) (by omega) (fun k z1 z2 => ?_) (by rw [show cs e + (k0 - cs e) = k0 by omega]; exact nx)
          have := hC.2.2.2.2 k z1 (by omega)
          exact ⟨by show q k = 14 * e + (q k - 14 * e); omega, by show 1 ≤ q k - 14 * e; omega, by show q k - 14 * e ≤ 14; omega⟩
        · have ce := hC.2.1 e (by omega)
          have m1 := mono (e + 1) (by omega)
          rw [if_pos (by omega)] at nx
          rw [gl_m_l (by omega)]
          refine gl_692 h (by omega) (by omega) (by have := hC.2.2.1; omega) (fun k z1 z2 => ?_) (by rw [show cs e + (cs (e + 1) - cs e) = cs (e + 1) by omega]; exact nx)
          have := ce.2.2 k z1 (by omega)
          exact ⟨by show q k = 14 * e + (q k - 14 * e); omega, by show 1 ≤ q k - 14 * e; omega, by show q k - 14 * e ≤ 14; omega⟩
      refine pk_lt bl e (fun z => absurd z (by omega)) (fun _ => ?_)
      rw [if_pos (show e ≤ bl by omega)]
      refine pk_eq e 0 (fun e0 => ?_) (fun n0 => pk_eq e 1 (fun e0 => ?_) (fun n1 => pk_eq e 2 (fun e0 => ?_) (fun n2 => ?_)))
      · rw [show o e = o 0 by rw [e0]] at key
        exact key
      · rw [show o e = o 1 by rw [e0]] at key
        exact key
      · rw [show o e = o 2 by rw [e0]] at key
        exact key
      · rw [show o e = o 3 by rw [show e = 3 by omega]] at key
        exact key
  rw [if_pos (Nat.zero_le bl), hC.1] at key
  exact key
end
end
section
/-! the state of the law within a block -/
def gl_B (L : Nat) (xs : Nat → Int32) (y bl e k0 b n c : Nat) (o a : Nat → Int64) (sn vl : Int64) (sl it : Int32) (st so : Nat → Int32) (pr rf : Nat → Int64) (lt li lk lv : Nat → Int32) (T : Nat → Nat) (X K A : Nat → Int32) (F : Nat → Nat → Prop) (q N cs : Nat → Nat) : Prop :=
  gp_J b n c st so pr rf T X K lt li lk lv A F q ∧ (it = nI y ∧ sl = nI 16) ∧ (14 * bl ≤ b ∧ b ≤ 14 * bl + 14) ∧ (∀ t, 1 ≤ t → t ≤ 14 * bl → st t = 4 ∨ st t = 5) ∧ gl_N L xs y bl n N T X K A lv a ∧ gl_C bl c cs q ∧ cs bl = gs_cnt (fun t => st t = 4) (14 * bl) ∧ (cs bl ≤ k0 ∧ k0 ≤ c) ∧ gl_O bl k0 cs q o ∧
    (∀ t, 1 ≤ t → t ≤ 62 → (gs_m sn (t + 1) ↔ ∃ m, m < k0 ∧ q m = t)) ∧ (∀ x, x < y → nI (gp_fd vl (10 * x) 10) = gp_sv q k0 n T X K lv (nI x)) ∧ (∀ j, j < 32 → gp_w8 a j / 1024 ≠ 0 → F (14 * bl + gl_rel j (gl_c L xs (32 * bl + j))) (14 * bl + gp_w8 a j / 1024)) ∧ (∀ j, e ≤ j → j < 32 → gp_w8 a j = 1023)
theorem gs_cnt_add (P : Nat → Prop) (m d : Nat) : gs_cnt P (m + d) ≤ gs_cnt P m + d := by
  induction d with
  | zero => exact Nat.le_refl _
  | succ d ih =>
    by_cases h : P (m + d + 1)
    · rw [show m + (d + 1) = m + d + 1 from rfl, gs_cnt_t h]; omega
    · rw [show m + (d + 1) = m + d + 1 from rfl, gs_cnt_f h]; omega
section
variable {post : Int32 → Prop} {L : Nat} {xs : Nat → Int32} {J61 : Int64 → Int64 → Int64 → Int64 → Int64 → Int64 → Int32 → Int32 → Int32 → Int32 → Int32 → Int32 → (Nat → Int32) → (Nat → Int64) → (Nat → Int64) → (Nat → Int32) → (Nat → Int32) → (Nat → Int32) → (Nat → Int32) → (Nat → Int32) → Prop} {J123 : Int64 → Int64 → Int64 → Int64 → Int64 → Int64 → Int64 → Int64 → Int64 → Int64 → Int64 → Int64 → Int64 → Int64 → Int32 → Int32 → Int32 → Int32 → Int32 → Int32 → Int32 → (Nat → Int32) → (Nat → Int64) → (Nat → Int64) → (Nat → Int32) → (Nat → Int32) → (Nat → Int32) → (Nat → Int32) → (Nat → Int32) → Prop} {hd : Int32} {y nn bl u i kc ks : Nat} {o a : Nat → Int64} {sn vl : Int64} {sl it : Int32} {b n c : Nat} {st : Nat → Int32} {pr rf : Nat → Int64} {lt li lk lv so : Nat → Int32} {T : Nat → Nat} {X K A : Nat → Int32} {F : Nat → Nat → Prop} {q : Nat → Nat} {N cs : Nat → Nat} {e k0 : Nat}
theorem gl_B_call {c' : Nat} {st' so' : Nat → Int32} {p' : Nat → Int64} {q' : Nat → Nat} (h : gl_B L xs y bl e k0 b n c o a sn vl sl it st so pr rf lt li lk lv T X K A F q N cs) (hJ : gp_J b n c' st' so' p' rf T X K lt li lk lv A F q') (hst : gp_st b st st') (hcc : c ≤ c') (hqq : ∀ k, k < c → q' k = q k) : gl_B L xs y bl e k0 b n c' o a sn vl sl it st' so' p' rf lt li lk lv T X K A F q' N cs := by
  obtain ⟨J, hi, hb, hfin, hN, hC, hcs, hk, hO, hsn, hvl, hrec, hemp⟩ := h
  have hQ := J.2.2.2.2.2.2.2.2.1
  have hQ' := hJ.2.2.2.2.2.2.2.2.1
  have hfin' : ∀ t, 1 ≤ t → t ≤ 14 * bl → st' t = 4 ∨ st' t = 5 := by
    intro t t1 t2
    have g := hst t t1 (by omega)
    exact (hfin t t1 t2).imp g.1 g.2.1
  have hcs' : cs bl = gs_cnt (fun t => st' t = 4) (14 * bl) := by
    rw [hcs]
    refine gs_cnt_c (fun t t1 t2 => ?_)
    have g := hst t t1 (by omega)
    refine ⟨g.1, fun z => ?_⟩
    rcases hfin t t1 t2 with y | y
    · exact y
    · rw [g.2.1 y] at z
      exact absurd z (by decide)
  have hC' : gl_C bl c' cs q' := by
    obtain ⟨c1, c2, c3, c4, c5⟩ := hC
    have hCm := gl_C_mono (c := c) (q := q) ⟨c1, c2, c3, c4, c5⟩
    refine ⟨c1, fun e he => ⟨(c2 e he).1, (c2 e he).2.1, fun k k1 k2 => ?_⟩, by omega, ?_, fun k k1 k2 => ?_⟩
    · rw [hqq k (by have := hCm (e + 1) (by omega); omega)]
      exact (c2 e he).2.2 k k1 k2
    · have g := gs_cnt_add (fun t => st' t = 4) (14 * bl) (b - 14 * bl)
      rw [show 14 * bl + (b - 14 * bl) = b by omega, ← hQ'.1, ← hcs'] at g
      omega
    · by_cases kc : k < c
      · rw [hqq k kc]
        exact c5 k k1 kc
      · have g := hQ'.2.1 k k2
        refine ⟨?_, by omega⟩
        apply Classical.byContradiction
        intro hn
        have g2 := hst (q' k) g.2.1.1 g.2.1.2
        rcases hfin (q' k) g.2.1.1 (by omega) with z | z
        · obtain ⟨m, hm, em⟩ := hQ.2.2.2.1 (q' k) g.2.1.1 g.2.1.2 z
          have := hQ'.2.2.1 m k (by omega) k2 ((hqq m hm).trans em)
          omega
        · have z' := g2.2.1 z
          rw [g.2.2] at z'
          exact absurd z' (by decide)
  refine ⟨hJ, hi, hb, hfin', hN, hC', hcs', ⟨hk.1, by omega⟩, ?_, ?_, ?_, hrec, hemp⟩
  · intro e he
    rw [hO e he]
    refine congrArg lN (gp_nb_c (cs e) (fun j j1 j2 => ?_)).symm
    have hj : j < k0 := by
      by_cases e1 : e < bl
      · rw [gl_m_l e1] at j2
        have := gl_C_mono hC (e + 1) (by omega)
        have := (hC.2.1 e e1).1
        omega
      · by_cases e2 : e = bl
        · subst e2
          rw [gl_m_e] at j2
          omega
        · unfold gl_m at j2
          rw [if_neg e1, if_neg e2] at j2
          omega
    show q' j - 14 * e = q j - 14 * e
    rw [hqq j (by omega)]
  · intro t t1 t2
    rw [hsn t t1 t2]
    exact ⟨fun ⟨m, hm, em⟩ => ⟨m, hm, by rw [hqq m (by omega)]; exact em⟩, fun ⟨m, hm, em⟩ => ⟨m, hm, by rw [← hqq m (by omega)]; exact em⟩⟩
  · intro x hx
    rw [hvl x hx, gp_sv_q (fun m hm => hqq m (by omega))]
theorem gl_B_cnt (h : gl_B L xs y bl e k0 b n c o a sn vl sl it st so pr rf lt li lk lv T X K A F q N cs) (hb : b + 1 ≤ 14 * bl + 14) : gs_cnt (fun t => gs_op (st t)) b < 16 := by
  obtain ⟨J, hi, hb', hfin, _⟩ := h
  have g := gs_cnt_add (fun t => gs_op (st t)) (14 * bl) (b - 14 * bl)
  have z : gs_cnt (fun t => gs_op (st t)) (14 * bl) = gs_cnt (fun _ => False) (14 * bl) := gs_cnt_c (fun t t1 t2 => ⟨fun o => by
    rcases hfin t t1 t2 with y | y
    · rw [y] at o; exact absurd o (by unfold gs_op; decide)
    · rw [y] at o; exact absurd o (by unfold gs_op; decide), fun f => f.elim⟩)
  have z0 : ∀ m, gs_cnt (fun _ => False) m = 0 := by
    intro m
    induction m with
    | zero => rfl
    | succ m ih => rw [gs_cnt_f (fun f => f), ih]
  rw [z, z0, show 14 * bl + (b - 14 * bl) = b by omega] at g
  omega
theorem gl_B_bg (h : gl_B L xs y bl e k0 b n c o a sn vl sl it st so pr rf lt li lk lv T X K A F q N cs) (hbl : bl < 4) (hb : b + 1 ≤ 14 * bl + 14) : gl_B L xs y bl e k0 (b + 1) n c o a sn vl sl it (upd st (b + 1) 1) so pr rf lt li lk lv T X K A F q N cs := by
  obtain ⟨J, hi, hb', hfin, hN, hC, hcs, hk, hO, hsn, hvl, hrec, hemp⟩ := h
  refine ⟨gp_J_bg J (by omega), hi, ⟨by omega, by omega⟩, ?_, hN, hC, ?_, hk, hO, hsn, hvl, hrec, hemp⟩
  · intro t t1 t2
    rw [pk_un (by omega)]
    exact hfin t t1 t2
  · rw [hcs]
    exact gs_cnt_c (fun t _ t2 => by rw [pk_un (by omega)])
theorem gl_N_n (hN : gl_N L xs y bl n N T X K A lv a) (hemp : ∀ j, e ≤ j → j < 32 → gp_w8 a j = 1023) : ∀ d j, j + d = 32 → e ≤ j → N j = n := by
  intro d
  induction d with
  | zero => intro j hj _; rw [show j = 32 by omega]; exact hN.1
  | succ d ih =>
    intro j hj hej
    have g := ih (j + 1) (by omega) (by omega)
    rcases hN.2.2.2 j (by omega) with z | z
    · rw [← z.2]; exact g
    · have s := z.2.2.2.1
      rw [hemp j hej (by omega)] at s
      omega
/-- a step that entered nothing -/
theorem gl_B_no (h : gl_B L xs y bl i k0 b n c o a sn vl sl it st so pr rf lt li lk lv T X K A F q N cs) (hi : i < 32) : gl_B L xs y bl (i + 1) k0 b n c o (gp_a8 a i 1023) sn vl sl it st so pr rf lt li lk lv T X K A F q N cs := by
  obtain ⟨J, hi', hb', hfin, hN, hC, hcs, hk, hO, hsn, hvl, hrec, hemp⟩ := h
  have e8 : ∀ j, gp_w8 (gp_a8 a i 1023) j = gp_w8 a j := by
    intro j
    by_cases ej : j = i
    · rw [ej, gp_a8_s (by decide), hemp i (Nat.le_refl i) hi]
    · exact gp_a8_o (by decide) ej
  refine ⟨J, hi', hb', hfin, ⟨hN.1, hN.2.1, hN.2.2.1, fun j hj => ?_⟩, hC, hcs, hk, hO, hsn, hvl, fun j hj z => ?_, fun j j1 j2 => ?_⟩
  · rw [e8 j]
    exact hN.2.2.2 j hj
  · rw [e8 j] at z ⊢
    exact hrec j hj z
  · rw [e8 j]
    exact hemp j (by omega) j2
/-- a step that entered an entry -/
theorem gl_B_op {t s w : Nat} {x kd v A' : Int32} {p' r' : Nat → Int64} {F' : Nat → Nat → Prop} (h : gl_B L xs y bl i k0 b n c o a sn vl sl it st so pr rf lt li lk lv T X K A F q N cs) (hi : i < 32) (hst : st t = 1) (hs : s < 1000) (hw : w < 16)
    (hJ : gp_J b (n + 1) c st so p' r' (gs_apN T n t) (upd X n x) (upd K n kd) (upd lt n (nI t)) (upd li n x) (upd lk n kd) (upd lv n v) (upd A n A') F' q) (hF : ∀ t w, F t w → F' t w)
    (hE : gl_En L xs y bl i n s (gs_apN T n t) (upd X n x) (upd K n kd) (upd A n A') (upd lv n v)) (hr : w ≠ 0 → F' (14 * bl + gl_rel i (gl_c L xs (32 * bl + i))) (14 * bl + w)) :
    gl_B L xs y bl (i + 1) k0 b (n + 1) c o (gp_a8 a i (s + 1024 * w)) sn vl sl it st so p' r' (upd lt n (nI t)) (upd li n x) (upd lk n kd) (upd lv n v) (gs_apN T n t) (upd X n x) (upd K n kd) (upd A n A') F' q (fun j => if j ≤ i then N j else n + 1) cs := by
  obtain ⟨J, hi', hb', hfin, hN, hC, hcs, hk, hO, hsn, hvl, hrec, hemp⟩ := h
  have hr16 : s + 1024 * w < 2 ^ 16 := by omega
  have Nin := gl_N_n hN hemp (32 - i) i (by omega) (Nat.le_refl i)
  have hQ := J.2.2.2.2.2.2.2.2.1
  have e8 : ∀ j, j ≠ i → gp_w8 (gp_a8 a i (s + 1024 * w)) j = gp_w8 a j := fun j ej => gp_a8_o hr16 ej
  have e8i : gp_w8 (gp_a8 a i (s + 1024 * w)) i = s + 1024 * w := gp_a8_s hr16
  refine ⟨hJ, hi', hb', hfin, ⟨?_, ?_, ?_, ?_⟩, hC, hcs, hk, hO, hsn, ?_, ?_, ?_⟩
  · show (if 32 ≤ i then N 32 else n + 1) = n + 1
    rw [if_neg (by omega)]
  · intro f hf
    have hf' : f < N 0 := by
      have : (if 0 ≤ i then N 0 else n + 1) = N 0 := if_pos (Nat.zero_le i)
      rw [← this]
      exact hf
    have n0 := hN.2.2.1 0 (by omega)
    rw [gs_apN_n (by omega)]
    exact hN.2.1 f hf'
  · intro j hj
    show (if j ≤ i then N j else n + 1) ≤ n + 1
    by_cases ej : j ≤ i
    · rw [if_pos ej]
      have := hN.2.2.1 j hj
      omega
    · rw [if_neg ej]
      omega
  · intro j hj
    show (_ ∧ (if j + 1 ≤ i then N (j + 1) else n + 1) = (if j ≤ i then N j else n + 1)) ∨ ((if j + 1 ≤ i then N (j + 1) else n + 1) = (if j ≤ i then N j else n + 1) + 1 ∧ gl_En L xs y bl j (if j ≤ i then N j else n + 1) _ _ _ _ _ _)
    by_cases ej : j = i
    · subst ej
      rw [if_neg (show ¬ j + 1 ≤ j by omega), if_pos (Nat.le_refl j), Nin, e8i, show (s + 1024 * w) % 1024 = s by omega]
      exact Or.inr ⟨rfl, hE⟩
    · rw [e8 j ej]
      by_cases lt : j < i
      · rw [if_pos (show j + 1 ≤ i by omega), if_pos (show j ≤ i by omega)]
        rcases hN.2.2.2 j hj with z | z
        · exact Or.inl z
        · refine Or.inr ⟨z.1, ?_⟩
          have ne : N j ≠ n := by
            have := hN.2.2.1 (j + 1) (by omega)
            omega
          have g := z.2
          unfold gl_En at g ⊢
          rw [gs_apN_n ne, pk_un ne, pk_un ne, pk_un ne, pk_un ne]
          exact g
      · rw [if_neg (show ¬ j + 1 ≤ i by omega), if_neg (show ¬ j ≤ i by omega)]
        exact Or.inl ⟨by rw [hemp j (by omega) hj], rfl⟩
  · intro z hz
    rw [hvl z hz, gp_sv_a (fun m hm em => ?_)]
    have g := (hQ.2.1 m (by omega)).2.2
    rw [em, hst] at g
    exact absurd g (by decide)
  · intro j hj z
    by_cases ej : j = i
    · subst ej
      rw [e8i, show (s + 1024 * w) / 1024 = w by omega] at z ⊢
      exact hr z
    · rw [e8 j ej] at z ⊢
      exact hF _ _ (hrec j hj z)
  · intro j j1 j2
    rw [e8 j (by omega)]
    exact hemp j (by omega) j2
end
end
section
/-! a step of the law -/
theorem nx_or (a b : Nat) : nI a ||| nI b = nI (a ||| b) := by
  apply Int32.toBitVec_inj.1
  show BitVec.ofNat 32 a ||| BitVec.ofNat 32 b = BitVec.ofNat 32 (a ||| b)
  apply BitVec.eq_of_getLsbD_eq
  intro i hi
  simp [hi]
theorem gl_rec {s w : Nat} (hs : s < 1024) (hw : w < 16) : nI s ||| (nI w <<< ((10 : Int32) &&& 31)) = nI (s + 1024 * w) := by
  rw [pk_shlN _ 10 (by decide) (by omega), nx_or]
  have e := Nat.two_pow_add_eq_or_of_lt (i := 10) (b := s) (by omega) w
  rw [Nat.or_comm, Nat.mul_comm w, ← e]
  congr 1
  omega
section
variable {post : Int32 → Prop} {L : Nat} {xs : Nat → Int32} {J61 : Int64 → Int64 → Int64 → Int64 → Int64 → Int64 → Int32 → Int32 → Int32 → Int32 → Int32 → Int32 → (Nat → Int32) → (Nat → Int64) → (Nat → Int64) → (Nat → Int32) → (Nat → Int32) → (Nat → Int32) → (Nat → Int32) → (Nat → Int32) → Prop} {J123 : Int64 → Int64 → Int64 → Int64 → Int64 → Int64 → Int64 → Int64 → Int64 → Int64 → Int64 → Int64 → Int64 → Int64 → Int32 → Int32 → Int32 → Int32 → Int32 → Int32 → Int32 → (Nat → Int32) → (Nat → Int64) → (Nat → Int64) → (Nat → Int32) → (Nat → Int32) → (Nat → Int32) → (Nat → Int32) → (Nat → Int32) → Prop} {hd : Int32} {y nn bl u i kc ks : Nat} {o a : Nat → Int64} {sn vl : Int64} {sl it : Int32} {b n c : Nat} {st : Nat → Int32} {pr rf : Nat → Int64} {lt li lk lv so : Nat → Int32} {T : Nat → Nat} {X K A : Nat → Int32} {F : Nat → Nat → Prop} {q : Nat → Nat} {N cs : Nat → Nat} {e k0 : Nat}
theorem gl_chk (h : gl_B L xs y bl e k0 b n c o a sn vl sl it st so pr rf lt li lk lv T X K A F q N cs) (hLL : L ≤ 260) (hbl : bl < 4) (hy1 : 1 ≤ y) (hy : y ≤ 4) (hu : u = k0 - cs bl) (k : ∀ o sn vl, gl_B L xs y bl e c b n c o a sn vl sl it st so pr rf lt li lk lv T X K A F q N cs → J123 (o 0) (o 1) (o 2) (o 3) sn vl (a 0) (a 1) (a 2) (a 3) (a 4) (a 5) (a 6) (a 7) (nI (c - cs bl)) (nI (i + 1)) sl it (nI b) (nI n) (nI c) st pr rf lt li lk lv so) : ∃ fu, wL_law_649 post L xs J61 J123 hd (nI y) (nI nn) (o 0) (o 1) (o 2) (o 3) sn vl (nI bl) (a 0) (a 1) (a 2) (a 3) (a 4) (a 5) (a 6) (a 7) (nI (14 * bl)) (nI u) (nI i) kc ks sl it (nI b) (nI n) (nI c) st pr rf lt li lk lv so fu 0 0 := by
  obtain ⟨J, hi, hb, hfin, hN, hC, hcs, hk, hO, hsn, hvl, hrec, hemp⟩ := h
  exact gl_649 J hLL hbl hi.1 hy1 hy (by omega) hN hC hk.1 hk.2 hu hO hsn hvl hrec (fun o sn vl a1 a2 a3 => k o sn vl ⟨J, hi, hb, hfin, hN, hC, hcs, ⟨hC.2.2.1, Nat.le_refl c⟩, a1, a2, a3, hrec, hemp⟩)
theorem gl_537 {w s : Nat} (hi : i < 32) (hs : s < 1024) (hw : w < 16) (k : ∃ fu, wL_law_649 post L xs J61 J123 hd (nI y) (nI nn) (o 0) (o 1) (o 2) (o 3) sn vl (nI bl) ((gp_a8 a i (s + 1024 * w)) 0) ((gp_a8 a i (s + 1024 * w)) 1) ((gp_a8 a i (s + 1024 * w)) 2) ((gp_a8 a i (s + 1024 * w)) 3) ((gp_a8 a i (s + 1024 * w)) 4) ((gp_a8 a i (s + 1024 * w)) 5) ((gp_a8 a i (s + 1024 * w)) 6) ((gp_a8 a i (s + 1024 * w)) 7) (nI (14 * bl)) (nI u) (nI i) kc ks sl it (nI b) (nI n) (nI c) st pr rf lt li lk lv so fu 0 0) : wL_law_537 post L xs J61 J123 hd (nI y) (nI nn) (o 0) (o 1) (o 2) (o 3) sn vl (nI bl) (a 0) (a 1) (a 2) (a 3) (a 4) (a 5) (a 6) (a 7) (nI (14 * bl)) (nI u) (nI i) (nI w) (nI s) kc ks sl it (nI b) (nI n) (nI c) st pr rf lt li lk lv so := by
  have hr : s + 1024 * w < 2 ^ 16 := by omega
  unfold wL_law_537
  refine nm_r (gl_rec hs hw) ?_
  exact gp_putL (m := 0) hi (by decide) hr (gp_putL (m := 1) hi (by decide) hr (gp_putL (m := 2) hi (by decide) hr (gp_putL (m := 3) hi (by decide) hr (gp_putL (m := 4) hi (by decide) hr (gp_putL (m := 5) hi (by decide) hr (gp_putL (m := 6) hi (by decide) hr (gp_putL (m := 7) hi (by decide) hr k)))))))
theorem gl_482n {x44 r : Int32} (hi : i < 32) (hr : r < 0) (k : ∃ fu, wL_law_649 post L xs J61 J123 hd (nI y) (nI nn) (o 0) (o 1) (o 2) (o 3) sn vl (nI bl) ((gp_a8 a i 1023) 0) ((gp_a8 a i 1023) 1) ((gp_a8 a i 1023) 2) ((gp_a8 a i 1023) 3) ((gp_a8 a i 1023) 4) ((gp_a8 a i 1023) 5) ((gp_a8 a i 1023) 6) ((gp_a8 a i 1023) 7) (nI (14 * bl)) (nI u) (nI i) kc ks sl it (nI b) (nI n) (nI c) st pr rf lt li lk lv so fu 0 0) : wL_law_482 post L xs J61 J123 hd (nI y) (nI nn) (o 0) (o 1) (o 2) (o 3) sn vl (nI bl) (a 0) (a 1) (a 2) (a 3) (a 4) (a 5) (a 6) (a 7) (nI (14 * bl)) (nI u) (nI i) x44 r kc ks sl it (nI b) (nI n) (nI c) st pr rf lt li lk lv so := by
  unfold wL_law_482
  refine nm_e (br_t hr ?_)
  unfold wL_law_507 wL_law_510
  exact br_f (Int32.not_le.mpr hr) (gl_537 (w := 0) (s := 1023) hi (by decide) (by decide) k)
theorem gl_sub1 {p r : Nat} (hr : r < 2 ^ 20) (h : p ≤ r) : nI p - nI r < 1 := by
  rw [Int32.lt_iff_toInt_lt, pk_sub_toInt (by omega) (by omega), show (1 : Int32).toInt = 1 from by decide]
  omega
theorem gl_482s {s wv : Nat} (hbl : bl < 4) (hi : i < 32) (hs : s < 1000) (hwv : wv = 0 ∨ (14 * bl < wv ∧ wv ≤ 14 * bl + 14)) (k : ∃ fu, wL_law_649 post L xs J61 J123 hd (nI y) (nI nn) (o 0) (o 1) (o 2) (o 3) sn vl (nI bl) ((gp_a8 a i (s + 1024 * (wv - 14 * bl))) 0) ((gp_a8 a i (s + 1024 * (wv - 14 * bl))) 1) ((gp_a8 a i (s + 1024 * (wv - 14 * bl))) 2) ((gp_a8 a i (s + 1024 * (wv - 14 * bl))) 3) ((gp_a8 a i (s + 1024 * (wv - 14 * bl))) 4) ((gp_a8 a i (s + 1024 * (wv - 14 * bl))) 5) ((gp_a8 a i (s + 1024 * (wv - 14 * bl))) 6) ((gp_a8 a i (s + 1024 * (wv - 14 * bl))) 7) (nI (14 * bl)) (nI u) (nI i) kc ks sl it (nI b) (nI n) (nI c) st pr rf lt li lk lv so fu 0 0) : wL_law_482 post L xs J61 J123 hd (nI y) (nI nn) (o 0) (o 1) (o 2) (o 3) sn vl (nI bl) (a 0) (a 1) (a 2) (a 3) (a 4) (a 5) (a 6) (a 7) (nI (14 * bl)) (nI u) (nI i) (nI wv) (nI s) kc ks sl it (nI b) (nI n) (nI c) st pr rf lt li lk lv so := by
  unfold wL_law_482
  have h0 : (0 : Int32) ≤ nI s := nI_pos' (by omega)
  by_cases hz : 14 * bl < wv
  · refine nm_r (pk_sub (by omega)) (br_f (nI_pos (by omega)) ?_)
    refine pk_lt (wv - 14 * bl) 1 (fun z => absurd z (by omega)) (fun _ => pk_le (wv - 14 * bl) 14 (fun _ => ?_) (fun z => absurd z (by omega)))
    unfold wL_law_510
    exact br_t h0 (pk_le s 1022 (fun _ => gl_537 hi (by omega) (by omega) k) (fun z => absurd z (by omega)))
  · have e0 : wv - 14 * bl = 0 := by omega
    rw [e0] at k
    refine nm_e (br_f (nI_pos (by omega)) (br_t (gl_sub1 (by omega) (by omega)) ?_))
    unfold wL_law_507 wL_law_510
    exact br_t h0 (pk_le s 1022 (fun _ => gl_537 (w := 0) hi (by omega) (by omega) k) (fun z => absurd z (by omega)))
theorem gl_384 {t wv p d itm am : Nat} (hB : gl_B L xs y bl i k0 b n c o a sn vl sl it st so pr rf lt li lk lv T X K A F q N cs) (hLL : L ≤ 260) (hbl : bl < 4) (hy1 : 1 ≤ y) (hy : y ≤ 4) (hu : u = k0 - cs bl) (hi : i < 32) (hp : p = gl_p L xs (32 * bl + i)) (hd' : d = gl_c L xs (32 * bl + i)) (ht : t = 14 * bl + gl_rel i d) (hit : itm = gl_item p d y) (ham : am = gl_am p d (32 * bl + i))
    (hwv : wv = 0 ∨ (wv = gs_wrt T (gs_lst (gs_Wr T X K st (nI itm)) n) ∧ wv ≠ t ∧ (1 ≤ wv ∧ wv ≤ b) ∧ gs_un (st wv) ∧ (p % 8 < 2 ∨ (4 ≤ p % 8 ∧ p % 8 < 6)))) (k : (∀ (n c : Nat) (o a : Nat → Int64) (sn vl : Int64) (st so : Nat → Int32) (pr rf : Nat → Int64) (lt li lk lv : Nat → Int32) (T : Nat → Nat) (X K A : Nat → Int32) (F : Nat → Nat → Prop) (q N : Nat → Nat), gl_B L xs y bl (i + 1) c b n c o a sn vl sl it st so pr rf lt li lk lv T X K A F q N cs → J123 (o 0) (o 1) (o 2) (o 3) sn vl (a 0) (a 1) (a 2) (a 3) (a 4) (a 5) (a 6) (a 7) (nI (c - cs bl)) (nI (i + 1)) sl it (nI b) (nI n) (nI c) st pr rf lt li lk lv so)) :
    wL_law_384 post L xs J61 J123 hd (nI y) (nI nn) (o 0) (o 1) (o 2) (o 3) sn vl (nI bl) (a 0) (a 1) (a 2) (a 3) (a 4) (a 5) (a 6) (a 7) (nI (14 * bl)) (nI u) (nI i) (nI d) (nI t) (nI itm) (nI am) (nI (p % 8)) (nI wv) (-1) kc ks sl it (nI b) (nI n) (nI c) st pr rf lt li lk lv so := by
  have J := hB.1
  have hb := hB.2.2.1
  have ham1 : am < 1000 := by rw [ham]; exact Nat.mod_lt _ (by decide)
  have hdl := gl_c_lt L xs (32 * bl + i)
  have htl : t < 1000 := by rw [ht]; unfold gl_rel; omega
  have hw2 : wv = 0 ∨ (14 * bl < wv ∧ wv ≤ 14 * bl + 14) := by
    rcases hwv with z | z
    · exact Or.inl z
    · refine Or.inr ⟨?_, by omega⟩
      apply Classical.byContradiction
      intro hn
      rcases hB.2.2.2.1 wv z.2.2.1.1 (by omega) with y | y
      · have := z.2.2.2.1
        rw [y] at this
        exact absurd this (by unfold gs_un; decide)
      · exact gp_un_5 z.2.2.2.1 y
  have no : ∀ (c' : Nat) (st' so' : Nat → Int32) (p' : Nat → Int64) (q' : Nat → Nat), gp_J b n c' st' so' p' rf T X K lt li lk lv A F q' → gp_st b st st' → c ≤ c' → (∀ k, k < c → q' k = q k) →
      ∃ fu, wL_law_649 post L xs J61 J123 hd (nI y) (nI nn) (o 0) (o 1) (o 2) (o 3) sn vl (nI bl) ((gp_a8 a i 1023) 0) ((gp_a8 a i 1023) 1) ((gp_a8 a i 1023) 2) ((gp_a8 a i 1023) 3) ((gp_a8 a i 1023) 4) ((gp_a8 a i 1023) 5) ((gp_a8 a i 1023) 6) ((gp_a8 a i 1023) 7) (nI (14 * bl)) (nI u) (nI i) kc ks sl it (nI b) (nI n) (nI c') st' p' rf lt li lk lv so' fu 0 0 := by
    intro c' st' so' p' q' g1 g2 g3 g4
    exact gl_chk (gl_B_no (gl_B_call hB g1 g2 g3 g4) hi) hLL hbl hy1 hy hu (fun o sn vl hB' => k _ _ _ _ _ _ _ _ _ _ _ _ _ _ _ _ _ _ _ _ _ hB')
  have cm : wL_law_474 post L xs J61 J123 hd (nI y) (nI nn) (o 0) (o 1) (o 2) (o 3) sn vl (nI bl) (a 0) (a 1) (a 2) (a 3) (a 4) (a 5) (a 6) (a 7) (nI (14 * bl)) (nI u) (nI i) (nI t) (nI wv) (-1) kc ks sl it (nI b) (nI n) (nI c) st pr rf lt li lk lv so := by
    unfold wL_law_474
    exact gx_commit J (fun r c' st' so' q' g1 g2 g3 g4 _ => gl_482n hi (by decide) (no c' st' so' pr q' g1 g2 g3 g4))
  have tj : ∀ j, j ≤ b → nI t = nI j → j = t := fun j hj ej => ((nI_eq (by omega) (by omega)).mp ej).symm
  have hr : ∀ (kd : Int32) (F' : Nat → Nat → Prop), (∀ t w, F t w → F' t w) → (gp_cd st kd t (gs_wrt T (gs_lst (gs_Wr T X K st (nI itm)) n)) → F' t (gs_wrt T (gs_lst (gs_Wr T X K st (nI itm)) n))) → ¬ kd &&& 1 = 0 → wv - 14 * bl ≠ 0 → F' (14 * bl + gl_rel i (gl_c L xs (32 * bl + i))) (14 * bl + (wv - 14 * bl)) := by
    intro kd F' _ hF' hkd hne
    have hw3 := hw2.resolve_left (by omega)
    have z := hwv.resolve_left (by omega)
    rw [← hd', ← ht, show 14 * bl + (wv - 14 * bl) = wv by omega, z.1]
    rw [z.1] at z
    exact hF' ⟨hkd, by omega, z.2.1, z.2.2.2.1⟩
  unfold wL_law_384
  refine pk_le 2 (p % 8) (fun p2 => pk_le 4 (p % 8) (fun p4 => pk_le 6 (p % 8) (fun p6 => ?_) (fun p6 => ?_)) (fun p4 => ?_)) (fun p2 => ?_)
  · refine pk_eq (p % 8) 7 (fun _ => br_c (fun _ => cm) (fun _ => ?_)) (fun _ => cm)
    exact gx_abort J (fun r c' st' so' p' q' g1 g2 g3 g4 => gl_482n hi (by decide) (no c' st' so' p' q' g1 g2 g3 g4))
  · refine gx_add ham1 J (fun r c' st' so' p' q' hr0 g1 g2 g3 g4 => gl_482n hi hr0 (no c' st' so' p' q' g1 g2 g3 g4)) (fun j p' r' j1 j2 ej hs hn z z1 g => ?_)
    obtain rfl := tj j j2 ej
    refine gl_482s hbl hi z1 hw2 (gl_chk (gl_B_op hB hi hs z1 (by omega) g (fun _ _ f => Or.inl f) ?_ (hr 3 _ (fun _ _ f => Or.inl f) (fun cd => Or.inr ⟨cd, rfl, rfl⟩) (by decide))) hLL hbl hy1 hy hu (fun o sn vl hB' => k _ _ _ _ _ _ _ _ _ _ _ _ _ _ _ _ _ _ _ _ _ hB'))
    unfold gl_En
    rw [gs_apN_s, pk_us, pk_us, pk_us, pk_us, ← hp, ← hd']
    exact ⟨ht, by rw [hit], z1, Or.inr (Or.inr ⟨by omega, rfl, by rw [ham], rfl⟩)⟩
  · have w0 : wv = 0 := by
      rcases hwv with z | z
      · exact z
      · have := z.2.2.2.2
        omega
    subst w0
    refine gx_write ham1 J (fun r c' st' so' p' q' hr0 g1 g2 g3 g4 => gl_482n hi hr0 (no c' st' so' p' q' g1 g2 g3 g4)) (fun j p' r' j1 j2 ej hs hn g => ?_)
    obtain rfl := tj j j2 ej
    refine gl_482s (s := 0) hbl hi (by decide) hw2 (gl_chk (gl_B_op hB hi hs (by decide) (by omega) g (fun _ _ f => Or.inl f) ?_ (fun z => absurd (Nat.zero_sub _) z)) hLL hbl hy1 hy hu (fun o sn vl hB' => k _ _ _ _ _ _ _ _ _ _ _ _ _ _ _ _ _ _ _ _ _ hB'))
    unfold gl_En
    rw [gs_apN_s, pk_us, pk_us, pk_us, pk_us, ← hp, ← hd']
    exact ⟨ht, by rw [hit], by decide, Or.inr (Or.inl ⟨by omega, rfl, by rw [ham]⟩)⟩
  · refine gx_read J (fun r c' st' so' p' q' hr0 g1 g2 g3 g4 => gl_482n hi hr0 (no c' st' so' p' q' g1 g2 g3 g4)) (fun j p' r' j1 j2 ej hs hn z z1 _ g => ?_)
    obtain rfl := tj j j2 ej
    refine gl_482s hbl hi z1 hw2 (gl_chk (gl_B_op hB hi hs z1 (by omega) g (fun _ _ f => Or.inl f) ?_ (hr 1 _ (fun _ _ f => Or.inl f) (fun cd => Or.inr ⟨cd, rfl, rfl⟩) (by decide))) hLL hbl hy1 hy hu (fun o sn vl hB' => k _ _ _ _ _ _ _ _ _ _ _ _ _ _ _ _ _ _ _ _ _ hB'))
    unfold gl_En
    rw [gs_apN_s, pk_us, pk_us, pk_us, pk_us, ← hp, ← hd']
    exact ⟨ht, by rw [hit], z1, Or.inl ⟨by omega, rfl, rfl⟩⟩
end
end
section
/-! a step of the law, up to its head -/
theorem gl_and2 : ∀ z, z < 8 → nI z &&& 2 = 0 → (z < 2 ∨ (4 ≤ z ∧ z < 6)) := by decide +kernel
def gl_bg (e : Nat) : Nat := if e = 0 then 0 else 4 + (e - 1) / 3
section
variable {post : Int32 → Prop} {L : Nat} {xs : Nat → Int32} {J61 : Int64 → Int64 → Int64 → Int64 → Int64 → Int64 → Int32 → Int32 → Int32 → Int32 → Int32 → Int32 → (Nat → Int32) → (Nat → Int64) → (Nat → Int64) → (Nat → Int32) → (Nat → Int32) → (Nat → Int32) → (Nat → Int32) → (Nat → Int32) → Prop} {J123 : Int64 → Int64 → Int64 → Int64 → Int64 → Int64 → Int64 → Int64 → Int64 → Int64 → Int64 → Int64 → Int64 → Int64 → Int32 → Int32 → Int32 → Int32 → Int32 → Int32 → Int32 → (Nat → Int32) → (Nat → Int64) → (Nat → Int64) → (Nat → Int32) → (Nat → Int32) → (Nat → Int32) → (Nat → Int32) → (Nat → Int32) → Prop} {hd : Int32} {y nn bl u i kc ks : Nat} {o a : Nat → Int64} {sn vl : Int64} {sl it : Int32} {b n c : Nat} {st : Nat → Int32} {pr rf : Nat → Int64} {lt li lk lv so : Nat → Int32} {T : Nat → Nat} {X K A : Nat → Int32} {F : Nat → Nat → Prop} {q : Nat → Nat} {N cs : Nat → Nat} {e k0 : Nat}
theorem gl_291 {p d : Nat} (hB : gl_B L xs y bl i k0 b n c o a sn vl sl it st so pr rf lt li lk lv T X K A F q N cs) (hLL : L ≤ 260) (hbl : bl < 4) (hy1 : 1 ≤ y) (hy : y ≤ 4) (hu : u = k0 - cs bl) (hi : i < 32) (hp : p = gl_p L xs (32 * bl + i)) (hd' : d = gl_c L xs (32 * bl + i)) (k : (∀ (n c : Nat) (o a : Nat → Int64) (sn vl : Int64) (st so : Nat → Int32) (pr rf : Nat → Int64) (lt li lk lv : Nat → Int32) (T : Nat → Nat) (X K A : Nat → Int32) (F : Nat → Nat → Prop) (q N : Nat → Nat), gl_B L xs y bl (i + 1) c b n c o a sn vl sl it st so pr rf lt li lk lv T X K A F q N cs → J123 (o 0) (o 1) (o 2) (o 3) sn vl (a 0) (a 1) (a 2) (a 3) (a 4) (a 5) (a 6) (a 7) (nI (c - cs bl)) (nI (i + 1)) sl it (nI b) (nI n) (nI c) st pr rf lt li lk lv so)) :
    wL_law_291 post L xs J61 J123 hd (nI y) (nI nn) (o 0) (o 1) (o 2) (o 3) sn vl (nI bl) (a 0) (a 1) (a 2) (a 3) (a 4) (a 5) (a 6) (a 7) (nI (14 * bl)) (nI u) (nI i) (nI (32 * bl + i)) (nI p) (nI d) kc ks sl it (nI b) (nI n) (nI c) st pr rf lt li lk lv so := by
  have J := hB.1
  have hb := hB.2.2.1
  have hpl : p < 65536 := by rw [hp]; exact gl_p_lt _ _ _
  have hdl : d < 65536 := by rw [hd']; exact gl_c_lt _ _ _
  have him : gl_item p d y < y := Nat.mod_lt _ (by omega)
  have htl : 14 * bl + gl_rel i d < 1000 := by unfold gl_rel; omega
  have go : ∀ wv, (wv = 0 ∨ (wv = gs_wrt T (gs_lst (gs_Wr T X K st (nI (gl_item p d y))) n) ∧ wv ≠ 14 * bl + gl_rel i d ∧ (1 ≤ wv ∧ wv ≤ b) ∧ gs_un (st wv) ∧ (p % 8 < 2 ∨ (4 ≤ p % 8 ∧ p % 8 < 6)))) →
      wL_law_384 post L xs J61 J123 hd (nI y) (nI nn) (o 0) (o 1) (o 2) (o 3) sn vl (nI bl) (a 0) (a 1) (a 2) (a 3) (a 4) (a 5) (a 6) (a 7) (nI (14 * bl)) (nI u) (nI i) (nI d) (nI (14 * bl + gl_rel i d)) (nI (gl_item p d y)) (nI (gl_am p d (32 * bl + i))) (nI (p % 8)) (nI wv) (-1) kc ks sl it (nI b) (nI n) (nI c) st pr rf lt li lk lv so :=
    fun wv hwv => gl_384 hB hLL hbl hy1 hy hu hi hp hd' rfl rfl rfl hwv k
  have g0 : wL_law_381 post L xs J61 J123 hd (nI y) (nI nn) (o 0) (o 1) (o 2) (o 3) sn vl (nI bl) (a 0) (a 1) (a 2) (a 3) (a 4) (a 5) (a 6) (a 7) (nI (14 * bl)) (nI u) (nI i) (nI d) (nI (14 * bl + gl_rel i d)) (nI (gl_item p d y)) (nI (gl_am p d (32 * bl + i))) (nI (p % 8)) (-1) kc ks sl it (nI b) (nI n) (nI c) st pr rf lt li lk lv so := by
    unfold wL_law_381
    exact go 0 (Or.inl rfl)
  have e7 : nI p &&& 7 = nI (p % 8) := pk_andN (by omega) 3 (by decide)
  unfold wL_law_291
  refine gl_relW (by omega) hdl (nm_r (nI_add (14 * bl) (gl_rel i d)) ?_)
  refine gl_itemW hpl hdl hy1 hy (gl_amW hpl hdl (by omega) (nm_r e7 ?_))
  refine br_c (fun e2 => ?_) (fun e2 => go 0 (Or.inl rfl))
  have hk8 := gl_and2 (p % 8) (by omega) e2
  refine gx_writer J.2.1 J.1.2.1 (by omega) hB.2.1.1 him (by omega) rfl (fun hw ho => ?_) (fun hw => ?_)
  · refine gx_status (by omega) (by omega) (fun _ _ => ?_) (fun z => absurd z (by omega))
    refine pk_eq _ (14 * bl + gl_rel i d) (fun _ => g0) (fun ne => br_c (fun s1 => go _ (Or.inr ⟨rfl, ne, hw, Or.inl s1, hk8⟩)) (fun _ => br_c (fun s2 => go _ (Or.inr ⟨rfl, ne, hw, Or.inr s2, hk8⟩)) (fun _ => g0))) rfl rfl (by omega) (by omega)
  · exact gx_status (j := 0) (by omega) (by omega) (fun z => absurd z (by omega)) (fun _ => br_c (fun _ => g0) (fun _ => br_f (by decide) (br_f (by decide) g0)))
theorem gl_274 {p d b0 cnt : Nat} {st0 : Nat → Int32} (hB : gl_B L xs y bl i k0 b0 n c o a sn vl sl it st0 so pr rf lt li lk lv T X K A F q N cs) (hcnt : b0 + cnt = b) (hbb : b ≤ 14 * bl + 14) (hLL : L ≤ 260) (hbl : bl < 4) (hy1 : 1 ≤ y) (hy : y ≤ 4) (hu : u = k0 - cs bl) (hi : i < 32) (hp : p = gl_p L xs (32 * bl + i)) (hd' : d = gl_c L xs (32 * bl + i)) (k : (∀ (n c : Nat) (o a : Nat → Int64) (sn vl : Int64) (st so : Nat → Int32) (pr rf : Nat → Int64) (lt li lk lv : Nat → Int32) (T : Nat → Nat) (X K A : Nat → Int32) (F : Nat → Nat → Prop) (q N : Nat → Nat), gl_B L xs y bl (i + 1) c b n c o a sn vl sl it st so pr rf lt li lk lv T X K A F q N cs → J123 (o 0) (o 1) (o 2) (o 3) sn vl (a 0) (a 1) (a 2) (a 3) (a 4) (a 5) (a 6) (a 7) (nI (c - cs bl)) (nI (i + 1)) sl it (nI b) (nI n) (nI c) st pr rf lt li lk lv so)) :
    ∃ fu, wL_law_274 post L xs J61 J123 hd (nI y) (nI nn) (o 0) (o 1) (o 2) (o 3) sn vl (nI bl) (a 0) (a 1) (a 2) (a 3) (a 4) (a 5) (a 6) (a 7) (nI (14 * bl)) (nI u) (nI i) (nI (32 * bl + i)) (nI p) (nI d) kc ks fu (nI cnt) sl it (nI b0) (nI n) (nI c) st0 pr rf lt li lk lv so := by
  refine ⟨cnt + 1, ?_⟩
  refine pk_loopD (σ := Nat × (Nat → Int32)) (fun m j s => wL_law_274 post L xs J61 J123 hd (nI y) (nI nn) (o 0) (o 1) (o 2) (o 3) sn vl (nI bl) (a 0) (a 1) (a 2) (a 3) (a 4) (a 5) (a 6) (a 7) (nI (14 * bl)) (nI u) (nI i) (nI (32 * bl + i)) (nI p) (nI d) kc ks m (nI j) sl it (nI s.1) (nI n) (nI c) s.2 pr rf lt li lk lv so) (fun j s => s.1 + j = b ∧ gl_B L xs y bl i k0 s.1 n c o a sn vl sl it s.2 so pr rf lt li lk lv T X K A F q N cs) ?_ ?_ cnt (b0, st0) ⟨hcnt, hB⟩
  · rintro m ⟨b2, st2⟩ ⟨g1, g2⟩
    dsimp only at g1 g2 ⊢
    obtain rfl : b2 = b := by omega
    exact pk_le 0 0 (fun _ => gl_291 g2 hLL hbl hy1 hy hu hi hp hd' k) (fun z => absurd z (by omega))
  · rintro m j ⟨b2, st2⟩ ⟨g1, g2⟩ kk
    dsimp only at g1 g2 kk ⊢
    refine pk_le (j + 1) 0 (fun z => absurd z (by omega)) (fun _ => ?_) rfl rfl (by omega) (by omega)
    exact gx_begin (by omega) g2.2.1.2 (gl_B_cnt g2 (by omega)) (nm_r (pk_m1 j) (kk (b2 + 1, upd st2 (b2 + 1) 1) ⟨by show b2 + 1 + j = b; omega, gl_B_bg g2 hbl (by omega)⟩))
theorem gl_262 {p d b1 : Nat} (hB : gl_B L xs y bl i k0 b n c o a sn vl sl it st so pr rf lt li lk lv T X K A F q N cs) (hb1 : b1 = b + (if i = 0 then 4 else 1)) (hbb : b1 ≤ 14 * bl + 14) (hLL : L ≤ 260) (hbl : bl < 4) (hy1 : 1 ≤ y) (hy : y ≤ 4) (hu : u = k0 - cs bl) (hi : i < 32) (hp : p = gl_p L xs (32 * bl + i)) (hd' : d = gl_c L xs (32 * bl + i)) (k : (∀ (n c : Nat) (o a : Nat → Int64) (sn vl : Int64) (st so : Nat → Int32) (pr rf : Nat → Int64) (lt li lk lv : Nat → Int32) (T : Nat → Nat) (X K A : Nat → Int32) (F : Nat → Nat → Prop) (q N : Nat → Nat), gl_B L xs y bl (i + 1) c b1 n c o a sn vl sl it st so pr rf lt li lk lv T X K A F q N cs → J123 (o 0) (o 1) (o 2) (o 3) sn vl (a 0) (a 1) (a 2) (a 3) (a 4) (a 5) (a 6) (a 7) (nI (c - cs bl)) (nI (i + 1)) sl it (nI b1) (nI n) (nI c) st pr rf lt li lk lv so)) :
    wL_law_262 post L xs J61 J123 hd (nI y) (nI nn) (o 0) (o 1) (o 2) (o 3) sn vl (nI bl) (a 0) (a 1) (a 2) (a 3) (a 4) (a 5) (a 6) (a 7) (nI (14 * bl)) (nI u) (nI i) (nI (32 * bl + i)) (nI p) (nI d) kc ks sl it (nI b) (nI n) (nI c) st pr rf lt li lk lv so := by
  unfold wL_law_262
  refine pk_eq i 0 (fun e => ?_) (fun e => ?_)
  · rw [if_pos e] at hb1
    exact gl_274 (cnt := 4) hB hb1.symm hbb hLL hbl hy1 hy hu hi hp hd' k
  · rw [if_neg e] at hb1
    exact gl_274 (cnt := 1) hB hb1.symm hbb hLL hbl hy1 hy hu hi hp hd' k
theorem gl_156a {b1 : Nat} (hB : gl_B L xs y bl i k0 b n c o a sn vl sl it st so pr rf lt li lk lv T X K A F q N cs) (hb : b = 14 * bl + gl_bg i) (hb1 : b1 = 14 * bl + gl_bg (i + 1)) (hLL : L ≤ 260) (hbl : bl < 4) (hy1 : 1 ≤ y) (hy : y ≤ 4) (hu : u = k0 - cs bl) (hi : i < 32) (k : (∀ (n c : Nat) (o a : Nat → Int64) (sn vl : Int64) (st so : Nat → Int32) (pr rf : Nat → Int64) (lt li lk lv : Nat → Int32) (T : Nat → Nat) (X K A : Nat → Int32) (F : Nat → Nat → Prop) (q N : Nat → Nat), gl_B L xs y bl (i + 1) c b1 n c o a sn vl sl it st so pr rf lt li lk lv T X K A F q N cs → J123 (o 0) (o 1) (o 2) (o 3) sn vl (a 0) (a 1) (a 2) (a 3) (a 4) (a 5) (a 6) (a 7) (nI (c - cs bl)) (nI (i + 1)) sl it (nI b1) (nI n) (nI c) st pr rf lt li lk lv so)) :
    wL_law_156 post L xs J61 J123 hd (nI y) (nI nn) (o 0) (o 1) (o 2) (o 3) sn vl (nI bl) (a 0) (a 1) (a 2) (a 3) (a 4) (a 5) (a 6) (a 7) (nI (14 * bl)) (nI u) (nI i) (nI (32 * bl + i)) kc ks sl it (nI b) (nI n) (nI c) st pr rf lt li lk lv so := by
  have e3 : nI i - nI i / 3 * 3 = nI (i % 3) := pk_rem (d := 3) (by omega) (by omega) (by omega)
  have hbg : i % 3 = 0 → gl_bg (i + 1) = gl_bg i + (if i = 0 then 4 else 1) := by
    intro z
    unfold gl_bg
    by_cases e0 : i = 0
    · subst e0
      rfl
    · rw [if_neg (by omega), if_neg e0, if_neg e0]
      omega
  have hbn : i % 3 ≠ 0 → gl_bg (i + 1) = gl_bg i := by
    intro z
    unfold gl_bg
    rw [if_neg (by omega), if_neg (by omega)]
    omega
  have hb14 : gl_bg (i + 1) ≤ 14 := by
    unfold gl_bg
    rw [if_neg (by omega)]
    omega
  unfold wL_law_156
  refine pk_lt i 32 (fun _ => ?_) (fun z => absurd z (by omega))
  rw [gl_j1, gl_j2]
  refine gl_cellW hLL (by omega) (nm_r (gl_p_e L xs (32 * bl + i)) ?_)
  refine gl_cellW hLL (by omega) (nm_r (gl_c_e L xs (32 * bl + i)) ⟨by decide, ?_⟩)
  rw [e3]
  refine pk_eq (i % 3) 0 (fun z => ?_) (fun z => ?_)
  · have hb2 : b1 = b + (if i = 0 then 4 else 1) := by
      rw [hb1, hb, hbg z]
      omega
    have g : wL_law_262 post L xs J61 J123 hd (nI y) (nI nn) (o 0) (o 1) (o 2) (o 3) sn vl (nI bl) (a 0) (a 1) (a 2) (a 3) (a 4) (a 5) (a 6) (a 7) (nI (14 * bl)) (nI u) (nI i) (nI (32 * bl + i)) (nI (gl_p L xs (32 * bl + i))) (nI (gl_c L xs (32 * bl + i))) kc ks sl it (nI b) (nI n) (nI c) st pr rf lt li lk lv so := gl_262 hB hb2 (by omega) hLL hbl hy1 hy hu hi rfl rfl k
    refine pk_le i 0 (fun _ => g) (fun _ => br_c (fun _ => ⟨by decide, ?_⟩) (fun _ => g))
    exact gx_commit hB.1 (fun r c' st' so' q' g1 g2 g3 g4 _ => gl_262 (gl_B_call hB g1 g2 g3 g4) hb2 (by omega) hLL hbl hy1 hy hu hi rfl rfl k)
  · obtain rfl : b1 = b := by rw [hb1, hb, hbn z]
    exact gl_291 hB hLL hbl hy1 hy hu hi rfl rfl k
theorem gl_156b {tt : Nat} (hB : gl_B L xs y bl e k0 b n c o a sn vl sl it st so pr rf lt li lk lv T X K A F q N cs) (hLL : L ≤ 260) (hbl : bl < 4) (hy1 : 1 ≤ y) (hy : y ≤ 4) (hu : u = k0 - cs bl) (hi : 32 ≤ i) (hi2 : i < 46) (htt : ((hd >>> ((2 + nI bl) &&& 31)) &&& 1 = 0 ∧ tt = 14 * bl + (i - 31)) ∨ (¬ (hd >>> ((2 + nI bl) &&& 31)) &&& 1 = 0 ∧ tt = 14 * bl + (46 - i)))
    (k : ∀ (c : Nat) (o : Nat → Int64) (sn vl : Int64) (st' so : Nat → Int32) (q : Nat → Nat), gl_B L xs y bl e c b n c o a sn vl sl it st' so pr rf lt li lk lv T X K A F q N cs → gp_st b st st' → (tt ≤ b → ¬ st' tt = 1) → J123 (o 0) (o 1) (o 2) (o 3) sn vl (a 0) (a 1) (a 2) (a 3) (a 4) (a 5) (a 6) (a 7) (nI (c - cs bl)) (nI (i + 1)) sl it (nI b) (nI n) (nI c) st' pr rf lt li lk lv so) :
    wL_law_156 post L xs J61 J123 hd (nI y) (nI nn) (o 0) (o 1) (o 2) (o 3) sn vl (nI bl) (a 0) (a 1) (a 2) (a 3) (a 4) (a 5) (a 6) (a 7) (nI (14 * bl)) (nI u) (nI i) (nI (32 * bl + i)) kc ks sl it (nI b) (nI n) (nI c) st pr rf lt li lk lv so := by
  have go : wpX_commit (fun r_404 uu => match uu with | (fm28_slots_405, fm28_items_406, fm28_begun_407, fm28_logLength_408, fm28_settledCount_409, am1921_412, am1922_415, am1923_418, am1924_421, am1925_424, am1926_427, am1927_430, am1928_433) => (∃ fu649 : Nat, wL_law_649 post L xs J61 J123 hd (nI y) (nI nn) (o 0) (o 1) (o 2) (o 3) sn vl (nI bl) (a 0) (a 1) (a 2) (a 3) (a 4) (a 5) (a 6) (a 7) (nI (14 * bl)) (nI u) (nI i) kc ks fm28_slots_405 fm28_items_406 fm28_begun_407 fm28_logLength_408 fm28_settledCount_409 am1921_412 am1922_415 am1923_418 am1924_421 am1925_424 am1926_427 am1927_430 am1928_433 fu649 0 0)) (sl, it, nI b, nI n, nI c, st, pr, rf, lt, li, lk, lv, so) (nI tt) := by
    refine gx_commit hB.1 (fun r c' st' so' q' g1 g2 g3 g4 g5 => ?_)
    exact gl_chk (gl_B_call hB g1 g2 g3 g4) hLL hbl hy1 hy hu (fun o sn vl hB' => k c' o sn vl st' so' q' hB' g2 (fun z => g5 tt (by omega) z rfl))
  have e31 : nI i - 31 = nI (i - 31) := pk_sub (b := 31) (by omega)
  have e46 : 46 - nI i = nI (46 - i) := pk_sub (a := 46) (by omega)
  unfold wL_law_156
  refine pk_lt i 32 (fun z => absurd z (by omega)) (fun _ => ?_)
  rcases htt with ⟨z, e⟩ | ⟨z, e⟩
  · refine br_t z ?_
    unfold wL_law_191
    rw [e31, nI_add, ← e]
    exact go
  · refine br_f z ?_
    unfold wL_law_191
    rw [e46, nI_add, ← e]
    exact go
end
end
section
/-! the law's two loops -/
def gl_dn (hd : Int32) (bl i r : Nat) : Prop := ((hd >>> ((2 + nI bl) &&& 31)) &&& 1 = 0 → r + 32 ≤ i) ∧ (¬ (hd >>> ((2 + nI bl) &&& 31)) &&& 1 = 0 → 47 ≤ r + i)
theorem gl_dn_lo {hd : Int32} {bl i r : Nat} (hi : i ≤ 32) (h1 : 1 ≤ r) (h2 : r ≤ 14) : ¬ gl_dn hd bl i r := by
  intro h
  by_cases c : (hd >>> ((2 + nI bl) &&& 31)) &&& 1 = 0
  · have := h.1 c
    omega
  · have := h.2 c
    omega
section
variable {post : Int32 → Prop} {L : Nat} {xs : Nat → Int32} {J61 : Int64 → Int64 → Int64 → Int64 → Int64 → Int64 → Int32 → Int32 → Int32 → Int32 → Int32 → Int32 → (Nat → Int32) → (Nat → Int64) → (Nat → Int64) → (Nat → Int32) → (Nat → Int32) → (Nat → Int32) → (Nat → Int32) → (Nat → Int32) → Prop} {hd sl it : Int32} {y nn kc ks : Nat}
theorem gl_123 {bl r : Nat} {cs : Nat → Nat} (hLL : L ≤ 260) (hbl : bl < 4) (hy1 : 1 ≤ y) (hy : y ≤ 4) (hnn : nn ≤ 128) (hr : (32 * bl + 32 ≤ nn → r = 32) ∧ (nn < 32 * bl + 32 → r = nn - 32 * bl))
    (kE : ∀ (b n c : Nat) (o a : Nat → Int64) (sn vl : Int64) (st so : Nat → Int32) (pr rf : Nat → Int64) (lt li lk lv : Nat → Int32) (T : Nat → Nat) (X K A : Nat → Int32) (F : Nat → Nat → Prop) (q N : Nat → Nat), gl_B L xs y bl r c b n c o a sn vl sl it st so pr rf lt li lk lv T X K A F q N cs → b = 14 * bl + gl_bg r → (∀ r', 1 ≤ r' → r' ≤ 14 → 14 * bl + r' ≤ b → ¬ st (14 * bl + r') = 1) → J61 (o 0) (o 1) (o 2) (o 3) sn vl (nI (bl + 1)) sl it (nI b) (nI n) (nI c) st pr rf lt li lk lv so) (d : Nat) :
    ∀ i e, i + d = 46 → (i ≤ r → e = i) → (r ≤ i → e = r) → ∀ (b n c : Nat) (o a : Nat → Int64) (sn vl : Int64) (st so : Nat → Int32) (pr rf : Nat → Int64) (lt li lk lv : Nat → Int32) (T : Nat → Nat) (X K A : Nat → Int32) (F : Nat → Nat → Prop) (q N : Nat → Nat), gl_B L xs y bl e c b n c o a sn vl sl it st so pr rf lt li lk lv T X K A F q N cs → b = 14 * bl + gl_bg e → (∀ r', 1 ≤ r' → r' ≤ 14 → gl_dn hd bl i r' → 14 * bl + r' ≤ b → ¬ st (14 * bl + r') = 1) →
      wL_law_123 post L xs J61 hd (nI y) (nI nn) (nI bl) (nI (14 * bl)) kc ks (d + 1) (o 0) (o 1) (o 2) (o 3) sn vl (a 0) (a 1) (a 2) (a 3) (a 4) (a 5) (a 6) (a 7) (nI (c - cs bl)) (nI i) sl it (nI b) (nI n) (nI c) st pr rf lt li lk lv so := by
  induction d with
  | zero =>
    intro i e hid he1 he2 b n c o a sn vl st so pr rf lt li lk lv T X K A F q N hB hb hdn
    obtain rfl : i = 46 := by omega
    obtain rfl := he2 (by omega)
    refine pk_le 46 46 (fun _ => nm_r (nI_1 bl) ?_) (fun z => absurd z (by omega))
    refine kE b n c o a sn vl st so pr rf lt li lk lv T X K A F q N hB hb (fun r' r1 r2 r3 => hdn r' r1 r2 ⟨fun _ => by omega, fun _ => by omega⟩ r3)
  | succ d ih =>
    intro i e hid he1 he2 b n c o a sn vl st so pr rf lt li lk lv T X K A F q N hB hb hdn
    refine pk_le 46 i (fun z => absurd z (by omega)) (fun _ => nm_r (gl_g bl i) ?_)
    refine pk_le 32 i (fun h32 => ?_) (fun h32 => pk_lt (32 * bl + i) nn (fun hlt => ?_) (fun hge => ?_))
    · have her : e = r := he2 (by omega)
      subst her
      have fin : ∀ tt, (gl_dn hd bl (i + 1) (tt - 14 * bl) ∧ 14 * bl < tt ∧ ∀ r', 1 ≤ r' → r' ≤ 14 → gl_dn hd bl (i + 1) r' → gl_dn hd bl i r' ∨ 14 * bl + r' = tt) → (((hd >>> ((2 + nI bl) &&& 31)) &&& 1 = 0 ∧ tt = 14 * bl + (i - 31)) ∨ (¬ (hd >>> ((2 + nI bl) &&& 31)) &&& 1 = 0 ∧ tt = 14 * bl + (46 - i))) →
          wL_law_156 post L xs J61 (wL_law_123 post L xs J61 hd (nI y) (nI nn) (nI bl) (nI (14 * bl)) kc ks (d + 1)) hd (nI y) (nI nn) (o 0) (o 1) (o 2) (o 3) sn vl (nI bl) (a 0) (a 1) (a 2) (a 3) (a 4) (a 5) (a 6) (a 7) (nI (14 * bl)) (nI (c - cs bl)) (nI i) (nI (32 * bl + i)) kc ks sl it (nI b) (nI n) (nI c) st pr rf lt li lk lv so := by
        intro tt h1 h2
        refine gl_156b hB hLL hbl hy1 hy rfl (by omega) (by omega) h2 (fun c o sn vl st' so q hB' hst ht => ?_)
        refine ih (i + 1) e (by omega) (fun _ => by omega) (fun _ => rfl) b n c o a sn vl st' so pr rf lt li lk lv T X K A F q N hB' hb (fun r' r1 r2 r3 r4 => ?_)
        rcases h1.2.2 r' r1 r2 r3 with z | z
        · exact fun y => hdn r' r1 r2 z r4 ((hst _ (by omega) r4).2.2 y)
        · rw [z] at r4 ⊢
          exact ht r4
      by_cases c : (hd >>> ((2 + nI bl) &&& 31)) &&& 1 = 0
      · refine fin (14 * bl + (i - 31)) ⟨⟨fun _ => by omega, fun z => absurd c z⟩, by omega, fun r' r1 r2 g => ?_⟩ (Or.inl ⟨c, rfl⟩)
        have g1 := g.1 c
        by_cases z : r' + 32 ≤ i
        · exact Or.inl ⟨fun _ => z, fun y => absurd c y⟩
        · exact Or.inr (by omega)
      · refine fin (14 * bl + (46 - i)) ⟨⟨fun z => absurd z c, fun _ => by omega⟩, by omega, fun r' r1 r2 g => ?_⟩ (Or.inr ⟨c, rfl⟩)
        have g1 := g.2 c
        by_cases z : 47 ≤ r' + i
        · exact Or.inl ⟨fun y => absurd y c, fun _ => z⟩
        · exact Or.inr (by omega)
    · have hei : e = i := he1 (by omega)
      subst hei
      refine gl_156a (b1 := 14 * bl + gl_bg (e + 1)) hB hb rfl hLL hbl hy1 hy rfl (by omega) ?_
      intro n c o a sn vl st so pr rf lt li lk lv T X K A F q N hB'
      exact ih (e + 1) (e + 1) (by omega) (fun _ => rfl) (fun _ => by omega) _ n c o a sn vl st so pr rf lt li lk lv T X K A F q N hB' rfl (fun r' r1 r2 r3 => absurd r3 (gl_dn_lo (by omega) r1 r2))
    · have her : e = r := he2 (by omega)
      subst her
      refine nm_r (nI_1 i) ?_
      exact ih (i + 1) e (by omega) (fun _ => by omega) (fun _ => rfl) b n c o a sn vl st so pr rf lt li lk lv T X K A F q N hB hb (fun r' r1 r2 r3 => absurd r3 (gl_dn_lo (by omega) r1 r2))
/-- the next block's beginning -/
theorem gl_next {bl b n c : Nat} {o a : Nat → Int64} {sn vl : Int64} {st so : Nat → Int32} {pr rf : Nat → Int64} {lt li lk lv : Nat → Int32} {T : Nat → Nat} {X K A : Nat → Int32} {F : Nat → Nat → Prop} {q N cs : Nat → Nat} {e : Nat} (hbl : bl < 4) (hB : gl_B L xs y bl e c b n c o a sn vl sl it st so pr rf lt li lk lv T X K A F q N cs) (hb : b = 14 * bl + 14)
    (hdn : ∀ r', 1 ≤ r' → r' ≤ 14 → 14 * bl + r' ≤ b → ¬ st (14 * bl + r') = 1) : gl_B L xs y (bl + 1) 0 c b n c o (fun _ => 287953294993589247) sn vl sl it st so pr rf lt li lk lv T X K A F q (fun _ => n) (fun e => if e ≤ bl then cs e else c) := by
  obtain ⟨J, hi, hb', hfin, hN, hC, hcs, hk, hO, hsn, hvl, hrec, hemp⟩ := hB
  have hdone := gp_done J (fun t t1 t2 => by
    by_cases z : t ≤ 14 * bl
    · rcases hfin t t1 z with y | y
      · rw [y]; decide
      · rw [y]; decide
    · have := hdn (t - 14 * bl) (by omega) (by omega) (by omega)
      rw [show 14 * bl + (t - 14 * bl) = t by omega] at this
      exact this)
  have hQ := J.2.2.2.2.2.2.2.2.1
  have cl : ∀ e, e ≤ bl → (if e ≤ bl then cs e else c) = cs e := fun e he => if_pos he
  have cg : (if bl + 1 ≤ bl then cs (bl + 1) else c) = c := if_neg (by omega)
  refine ⟨J, hi, ⟨by omega, by omega⟩, fun t t1 t2 => hdone t t1 (by omega), ⟨rfl, fun f hf => ?_, fun _ _ => Nat.le_refl n, fun j hj => Or.inl ⟨?_, rfl⟩⟩, ⟨?_, fun e he => ?_, ?_, ?_, fun k k1 k2 => ?_⟩, ?_, ⟨?_, Nat.le_refl c⟩, fun e he => ?_, hsn, hvl, fun j hj z => ?_, fun j _ _ => gp_emp j⟩
  · have := (J.2.1 f hf).2.2.1
    omega
  · rw [gp_emp]
  · show (if 0 ≤ bl then cs 0 else c) = 0
    rw [cl 0 (Nat.zero_le bl)]
    exact hC.1
  · by_cases z : e = bl
    · subst z
      show (if e ≤ e then cs e else c) ≤ (if e + 1 ≤ e then cs (e + 1) else c) ∧ (if e + 1 ≤ e then cs (e + 1) else c) ≤ (if e ≤ e then cs e else c) + 14 ∧ ∀ k, (if e ≤ e then cs e else c) ≤ k → k < (if e + 1 ≤ e then cs (e + 1) else c) → 14 * e < q k ∧ q k ≤ 14 * e + 14
      rw [cl e (Nat.le_refl e), cg]
      exact ⟨hC.2.2.1, hC.2.2.2.1, hC.2.2.2.2⟩
    · show (if e ≤ bl then cs e else c) ≤ (if e + 1 ≤ bl then cs (e + 1) else c) ∧ (if e + 1 ≤ bl then cs (e + 1) else c) ≤ (if e ≤ bl then cs e else c) + 14 ∧ ∀ k, (if e ≤ bl then cs e else c) ≤ k → k < (if e + 1 ≤ bl then cs (e + 1) else c) → 14 * e < q k ∧ q k ≤ 14 * e + 14
      rw [cl e (by omega), cl (e + 1) (by omega)]
      exact hC.2.1 e (by omega)
  · show (if bl + 1 ≤ bl then cs (bl + 1) else c) ≤ c
    rw [cg]
    exact Nat.le_refl c
  · show c ≤ (if bl + 1 ≤ bl then cs (bl + 1) else c) + 14
    rw [cg]
    omega
  · have k1' : c ≤ k := by
      have z : (if bl + 1 ≤ bl then cs (bl + 1) else c) ≤ k := k1
      rw [cg] at z
      exact z
    omega
  · show (if bl + 1 ≤ bl then cs (bl + 1) else c) = _
    rw [cg, hQ.1, hb, show 14 * (bl + 1) = 14 * bl + 14 by omega]
  · show (if bl + 1 ≤ bl then cs (bl + 1) else c) ≤ c
    rw [cg]
    exact Nat.le_refl c
  · rw [hO e he]
    show lN (gp_nb _ (cs e) (gl_m bl c cs e)) = lN (gp_nb _ (if e ≤ bl then cs e else c) (gl_m (bl + 1) c (fun e => if e ≤ bl then cs e else c) e))
    unfold gl_m
    dsimp only
    by_cases z : e < bl
    · rw [if_pos z, if_pos (show e < bl + 1 by omega), cl e (by omega), cl (e + 1) (by omega)]
    · by_cases z2 : e = bl
      · subst z2
        rw [if_neg z, if_pos rfl, if_pos (show e < e + 1 by omega), cl e (Nat.le_refl e), cg]
      · rw [if_neg z, if_neg z2, if_neg (show ¬ e < bl + 1 by omega)]
        by_cases z3 : e = bl + 1
        · rw [if_pos z3, cg, Nat.sub_self]
          rfl
        · rw [if_neg z3]
          rfl
  · rw [gp_emp] at z
    exact absurd (by decide) z
theorem gl_61 (hLL : L ≤ 260) (hy1 : 1 ≤ y) (hy : y ≤ 4) (hnn : nn ≤ 128) (hp : post 1) (d : Nat) : ∀ bl, bl + d = 4 → ∀ (b n c : Nat) (o a : Nat → Int64) (sn vl : Int64) (st so : Nat → Int32) (pr rf : Nat → Int64) (lt li lk lv : Nat → Int32) (T : Nat → Nat) (X K A : Nat → Int32) (F : Nat → Nat → Prop) (q N : Nat → Nat) (cs : Nat → Nat), (nn ≤ 32 * bl ∨ (b = 14 * bl ∧ cs bl = c ∧ gl_B L xs y bl 0 c b n c o (fun _ => 287953294993589247) sn vl sl it st so pr rf lt li lk lv T X K A F q N cs)) →
    wL_law_61 post L xs hd (nI y) (nI nn) kc ks (d + 1) (o 0) (o 1) (o 2) (o 3) sn vl (nI bl) sl it (nI b) (nI n) (nI c) st pr rf lt li lk lv so := by
  induction d with
  | zero =>
    intro bl hbl b n c o a sn vl st so pr rf lt li lk lv T X K A F q N cs h
    have e32 : (32 : Int32) * nI bl = nI (32 * bl) := pk_mul 32 bl
    unfold wL_law_61
    rw [e32]
    exact pk_le nn (32 * bl) (fun _ => hp) (fun z => absurd z (by omega))
  | succ d ih =>
    intro bl hbl b n c o a sn vl st so pr rf lt li lk lv T X K A F q N cs h
    have e32 : (32 : Int32) * nI bl = nI (32 * bl) := pk_mul 32 bl
    have e14 : (14 : Int32) * nI bl = nI (14 * bl) := pk_mul 14 bl
    unfold wL_law_61
    rw [e32]
    refine pk_le nn (32 * bl) (fun _ => hp) (fun hlt => nm_r e14 ?_)
    obtain ⟨hb, hcs, hB⟩ := h.resolve_left (by omega)
    obtain ⟨r, hr⟩ : ∃ r, (32 * bl + 32 ≤ nn → r = 32) ∧ (nn < 32 * bl + 32 → r = nn - 32 * bl) := by
      by_cases z : 32 * bl + 32 ≤ nn
      · exact ⟨32, fun _ => rfl, fun y => absurd y (by omega)⟩
      · exact ⟨nn - 32 * bl, fun y => absurd y z, fun _ => rfl⟩
    refine ⟨46 + 1, ?_⟩
    have key := gl_123 (post := post) (J61 := wL_law_61 post L xs hd (nI y) (nI nn) kc ks (d + 1)) (hd := hd) (sl := sl) (it := it) (kc := kc) (ks := ks) (cs := cs) hLL (by omega : bl < 4) hy1 hy hnn hr (fun b n c o a sn vl st so pr rf lt li lk lv T X K A F q N hB' hb' hdn => ?_) 46 0 0 rfl (fun _ => rfl) (fun _ => by omega) b n c o (fun _ => 287953294993589247) sn vl st so pr rf lt li lk lv T X K A F q N hB (by rw [hb]; rfl) (fun r' r1 r2 r3 => absurd r3 (gl_dn_lo (by omega) r1 r2))
    · rw [hcs, Nat.sub_self] at key
      exact key
    · refine ih (bl + 1) (by omega) b n c o a sn vl st so pr rf lt li lk lv T X K A F q (fun _ => n) (fun e => if e ≤ bl then cs e else c) ?_
      by_cases z : nn ≤ 32 * (bl + 1)
      · exact Or.inl z
      · have r32 : r = 32 := hr.1 (by omega)
        have hb2 : b = 14 * bl + 14 := by
          rw [hb', r32]
          rfl
        exact Or.inr ⟨by omega, if_neg (by omega), gl_next (by omega) hB' hb2 hdn⟩
end
end
section
/-! the law's beginning -/
theorem gp_J_0 : gp_J 0 0 0 (fun _ => 0) (fun _ => 0) (fun _ => 0) (fun _ => 0) (fun _ => 0) (fun _ => 0) (fun _ => 0) (fun _ => 0) (fun _ => 0) (fun _ => 0) (fun _ => 0) (fun _ => 0) (fun _ _ => False) (fun _ => 0) := by
  have nE : ∀ s t, ¬ gs_E 0 (fun _ => 0) (fun _ => 0) (fun _ => 0) (fun _ => 0) s t := fun s t ⟨i, j, _, hj, _⟩ => absurd hj (by omega)
  refine ⟨⟨by omega, by omega, by omega⟩, fun j h => absurd h (by omega), fun j h => absurd h (by omega), fun j h => absurd h (by omega), fun t _ _ s => ⟨fun h => absurd h (gs_m_0 s), fun h => absurd h (nE s t)⟩, fun t _ _ s => ⟨fun h => absurd h (gs_m_0 s), fun h => h.elim⟩, fun z h => gs_L_i (A := fun _ => False) (fun c hc => nE _ _ hc) (fun _ _ h _ => h) h,
    ⟨fun _ _ h => h.elim, fun _ _ h => h.elim, fun _ _ h => h.elim, fun t h1 h2 => absurd h2 (by omega)⟩, ⟨rfl, fun k h => absurd h (by omega), fun k _ h => absurd h (by omega), fun t h1 h2 => absurd h2 (by omega), fun k h => absurd h (by omega)⟩, fun t h1 h2 => absurd h2 (by omega), fun t h1 h2 => absurd h2 (by omega), ⟨fun j h => absurd h (by omega), fun j h => absurd h (by omega)⟩⟩
theorem gl_B_0 {L : Nat} {xs : Nat → Int32} {y : Nat} (hy : y ≤ 4) : gl_B L xs y 0 0 0 0 0 0 (fun _ => 0) (fun _ => 287953294993589247) 0 0 16 (nI y) (fun _ => 0) (fun _ => 0) (fun _ => 0) (fun _ => 0) (fun _ => 0) (fun _ => 0) (fun _ => 0) (fun _ => 0) (fun _ => 0) (fun _ => 0) (fun _ => 0) (fun _ => 0) (fun _ _ => False) (fun _ => 0) (fun _ => 0) (fun _ => 0) := by
  have f0 : ∀ x, x < 4 → gp_fd 0 (10 * x) 10 = 0 := by decide +kernel
  refine ⟨gp_J_0, ⟨rfl, rfl⟩, ⟨by omega, by omega⟩, fun t h1 h2 => absurd h2 (by omega), ⟨rfl, fun e (h : e < 0) => absurd h (Nat.not_lt_zero e), fun _ _ => Nat.le_refl 0, fun j _ => Or.inl ⟨by rw [gp_emp], rfl⟩⟩, ⟨rfl, fun e h => absurd h (by omega), Nat.le_refl 0, by omega, fun k _ h => absurd h (by omega)⟩, rfl, ⟨Nat.le_refl 0, Nat.le_refl 0⟩, fun e he => ?_, fun t _ _ => ⟨fun h => absurd h (gs_m_0 _), fun ⟨m, hm, _⟩ => absurd hm (by omega)⟩, fun x hx => ?_, fun j _ z => ?_, fun j _ _ => gp_emp j⟩
  · have e0 : gl_m 0 0 (fun _ => 0) e = 0 := by
      unfold gl_m
      rw [if_neg (by omega)]
      by_cases z : e = 0
      · rw [if_pos z]
        exact Nat.zero_sub _
      · rw [if_neg z]
    rw [e0]
    rfl
  · rw [f0 x (by omega), gp_sv_0]
    rfl
  · rw [gp_emp] at z
    exact absurd (by decide) z
theorem gl_28 {L : Nat} {xs : Nat → Int32} {hd : Int32} {y nn : Nat} (hL : L ≤ 260) (hy1 : 1 ≤ y) (hy : y ≤ 4) (hnn : nn ≤ 128) : wL_law_28 (fun r => r = 1) L xs hd (nI y) (nI nn) 0 0 := by
  unfold wL_law_28
  refine ⟨by decide, by decide, 8, 771, by decide, by decide, ?_⟩
  unfold wpX_init
  dsimp only
  refine ⟨by decide, by decide, by decide, by decide, by decide, by decide, by decide, by decide, by decide, by decide, by decide, by decide, by decide, by decide, by decide, by decide, ?_⟩
  unfold wpX_clamp
  refine br_t (by decide) (br_t (by decide) (br_t (nI_le (a := 1) hy1 (by omega)) (br_t (nI_le (b := 8) (by omega) (by omega)) ?_)))
  exact ⟨4 + 1, gl_61 (post := fun r => r = 1) (sl := 16) (it := nI y) hL hy1 hy hnn rfl 4 0 rfl 0 0 0 (fun _ => 0) (fun _ => 0) 0 0 (fun _ => 0) (fun _ => 0) (fun _ => 0) (fun _ => 0) (fun _ => 0) (fun _ => 0) (fun _ => 0) (fun _ => 0) (fun _ => 0) (fun _ => 0) (fun _ => 0) (fun _ => 0) (fun _ _ => False) (fun _ => 0) (fun _ => 0) (fun _ => 0) (Or.inr ⟨rfl, rfl, gl_B_0 hy⟩)⟩
theorem i_vc (xs : Nat → Int32) (L : Nat) (hL : L ≤ 260) : wpL_law (fun r => r = 1) L xs := by
  unfold wpL_law
  refine gl_cellW (k := 0) hL (by omega) ?_
  refine nm_r (e' := nI (1 + (gl_cell L xs 0).toBitVec.toNat % 2 ^ 2)) ?_ ⟨by decide, nm_r (e' := nI (L / 2)) ?_ ?_⟩
  · rw [pk_and _ 2 (by decide)]
    exact nI_add 1 _
  · exact pk_div (d := 2) (by omega) (by omega) (by omega)
  · have h4 : (gl_cell L xs 0).toBitVec.toNat % 2 ^ 2 < 4 := Nat.mod_lt _ (by decide)
    exact pk_le (L / 2) 128 (fun h => gl_28 hL (by omega) (by omega) h) (fun h => gl_28 (nn := 128) hL (by omega) (by omega) (by omega))
end
