/-! fields of a long -/
def gp_fd (w : Int64) (s l : Nat) : Nat := w.toBitVec.toNat / 2 ^ s % 2 ^ l
theorem gp_fd_lt (w : Int64) (s l : Nat) : gp_fd w s l < 2 ^ l := Nat.mod_lt _ (Nat.two_pow_pos l)
theorem gp_fd_tb (w : Int64) (s l i : Nat) : (gp_fd w s l).testBit i = (decide (i < l) && w.toBitVec.getLsbD (i + s)) := by
  unfold gp_fd
  rw [Nat.testBit_mod_two_pow, Nat.testBit_div_two_pow]
  rfl
def gp_put (w : Int64) (s l r : Nat) : Int64 := (w &&& (lN ((2 ^ l - 1) * 2 ^ s) ^^^ (-1))) ||| lN (r * 2 ^ s)
theorem gp_put_tb (w : Int64) (s l r : Nat) (p : Nat) (hp : p < 64) : (gp_put w s l r).toBitVec.getLsbD p = ((w.toBitVec.getLsbD p && !(decide (s ≤ p) && decide (p - s < l))) || (decide (s ≤ p) && r.testBit (p - s))) := by
  unfold gp_put
  rw [Int64.toBitVec_or, Int64.toBitVec_and, Int64.toBitVec_xor, show (-1 : Int64).toBitVec = BitVec.allOnes 64 from by decide, wb_tb, wb_tb, BitVec.getLsbD_or, BitVec.getLsbD_and, BitVec.getLsbD_xor, BitVec.getLsbD_allOnes, BitVec.getLsbD_ofNat, BitVec.getLsbD_ofNat,
    Nat.testBit_mul_two_pow, Nat.testBit_mul_two_pow, Nat.testBit_two_pow_sub_one, decide_eq_true hp]
  simp
theorem gp_put_s {w : Int64} {s l r : Nat} (h : s + l ≤ 64) (hr : r < 2 ^ l) : gp_fd (gp_put w s l r) s l = r := by
  apply Nat.eq_of_testBit_eq
  intro i
  rw [gp_fd_tb]
  by_cases hi : i < l
  · rw [gp_put_tb _ _ _ _ _ (by omega), Nat.add_sub_cancel, decide_eq_true hi, decide_eq_true (show s ≤ i + s by omega)]
    simp
  · rw [decide_eq_false hi, Bool.false_and]
    exact (Nat.testBit_lt_two_pow (Nat.lt_of_lt_of_le hr (Nat.pow_le_pow_right (by decide) (by omega)))).symm
theorem gp_put_o {w : Int64} {s l r s' l' : Nat} (h : s' + l' ≤ 64) (hr : r < 2 ^ l) (hd : s' + l' ≤ s ∨ s + l ≤ s') : gp_fd (gp_put w s l r) s' l' = gp_fd w s' l' := by
  apply Nat.eq_of_testBit_eq
  intro i
  rw [gp_fd_tb, gp_fd_tb]
  by_cases hi : i < l'
  · rw [gp_put_tb _ _ _ _ _ (by omega)]
    by_cases hs : s ≤ i + s'
    · have h2 : ¬ i + s' - s < l := by omega
      rw [decide_eq_true hs, decide_eq_false h2, Nat.testBit_lt_two_pow (Nat.lt_of_lt_of_le hr (Nat.pow_le_pow_right (by decide) (show l ≤ i + s' - s by omega)))]
      simp
    · rw [decide_eq_false hs]
      simp
  · rw [decide_eq_false hi, Bool.false_and, Bool.false_and]
/-- as it is printed: a field read -/
theorem gp_get {w : Int64} {s : Nat} (hs : s < 64) : ((w.toUInt64 >>> ((nI s).toInt64.toUInt64 &&& Int64.toUInt64 63)).toInt64).toInt32 = nI (w.toBitVec.toNat / 2 ^ s) := by
  obtain ⟨m, hm, rfl⟩ := wb_of w
  rw [wb_shr hm hs, lN_i, wb_tn hm]
theorem gp_get16 {w : Int64} {s : Nat} (hs : s < 64) : (((w.toUInt64 >>> ((nI s).toInt64.toUInt64 &&& Int64.toUInt64 63)).toInt64).toInt32) &&& 65535 = nI (gp_fd w s 16) := by
  rw [gp_get hs, nx_mod]
  rfl
theorem nx_1023 (k : Nat) : nI k &&& 1023 = nI (k % 1024) := by
  show nI k &&& nI 1023 = _
  rw [nx_and, show (1023 : Nat) = 2 ^ 10 - 1 from rfl, Nat.and_two_pow_sub_one_eq_mod]
theorem gp_get10 {w : Int64} {s : Nat} (hs : s < 64) : (((w.toUInt64 >>> ((nI s).toInt64.toUInt64 &&& Int64.toUInt64 63)).toInt64).toInt32) &&& 1023 = nI (gp_fd w s 10) := by
  rw [gp_get hs, nx_1023]
  rfl
/-- as it is printed: a field written -/
theorem gp_set16 {w : Int64} {s r : Nat} (hs : s < 64) (hr : r < 2 ^ 16) : (w &&& (((65535 : Int64) <<< ((nI s).toInt64 &&& 63)) ^^^ (-1))) ||| ((nI r).toInt64 <<< ((nI s).toInt64 &&& 63)) = gp_put w s 16 r := by
  rw [nI_l (show r < 2 ^ 31 by omega), show (65535 : Int64) = lN 65535 from rfl, wb_shl _ hs, wb_shl _ hs]
  rfl
theorem gp_set10 {w : Int64} {s r : Nat} (hs : s < 64) (hr : r < 2 ^ 10) : (w &&& (((1023 : Int64) <<< ((nI s).toInt64 &&& 63)) ^^^ (-1))) ||| ((nI r).toInt64 <<< ((nI s).toInt64 &&& 63)) = gp_put w s 10 r := by
  rw [nI_l (show r < 2 ^ 31 by omega), show (1023 : Int64) = lN 1023 from rfl, wb_shl _ hs, wb_shl _ hs]
  rfl
/-- the record words: field j of eight longs -/
def gp_w8 (a : Nat → Int64) (j : Nat) : Nat := gp_fd (a (j / 4)) (16 * (j % 4)) 16
theorem gp_sel {post : Int32 → Prop} {a : Nat → Int64} {j : Nat} (hj : j < 32) (hp : post (nI (gp_w8 a j))) : wpL_get post () (nI j) (a 0) (a 1) (a 2) (a 3) (a 4) (a 5) (a 6) (a 7) := by
  have e1 : nI j >>> ((2 : Int32) &&& 31) = nI (j / 4) := pk_shrN (by omega) _ 2 (by decide)
  have e2 : (16 : Int32) * (nI j &&& 3) = nI (16 * (j % 4)) := by
    rw [pk_andN (by omega) 2 (by decide)]
    exact pk_mul 16 (j % 4)
  have hg : ∀ m, j / 4 = m → wL_get_82 post (nI j) (a m) := by
    rintro m rfl
    unfold wL_get_82
    rw [e2, gp_get16 (by omega)]
    exact hp
  unfold wpL_get
  refine nm_r e1 ?_
  refine pk_eq (j / 4) 0 (fun e => hg 0 e) (fun n0 => pk_eq (j / 4) 1 (fun e => hg 1 e) (fun n1 => pk_eq (j / 4) 2 (fun e => hg 2 e) (fun n2 => pk_eq (j / 4) 3 (fun e => hg 3 e) (fun n3 => pk_eq (j / 4) 4 (fun e => hg 4 e) (fun n4 => pk_eq (j / 4) 5 (fun e => hg 5 e) (fun n5 => pk_eq (j / 4) 6 (fun e => hg 6 e) (fun n6 => hg 7 (by omega))))))))
theorem gp_putL {post : Int64 → Prop} {w : Int64} {i m r : Nat} (hi : i < 32) (hm : m < 8) (hr : r < 2 ^ 16) (hp : post (if i / 4 = m then gp_put w (16 * (i % 4)) 16 r else w)) : wpL_put post () w (nI i) (nI m) (nI r) := by
  have e1 : nI i >>> ((2 : Int32) &&& 31) = nI (i / 4) := pk_shrN (by omega) _ 2 (by decide)
  have e2 : (16 : Int32) * (nI i &&& 3) = nI (16 * (i % 4)) := by
    rw [pk_andN (by omega) 2 (by decide)]
    exact pk_mul 16 (i % 4)
  unfold wpL_put
  rw [e1, e2]
  refine pk_eq (i / 4) m (fun e => ?_) (fun e => ?_)
  · rw [if_pos e] at hp
    refine nm_e ?_
    rw [gp_set16 (by omega) hr]
    exact hp
  · rw [if_neg e] at hp
    exact hp
def gp_a8 (a : Nat → Int64) (i r : Nat) : Nat → Int64 := fun m => if i / 4 = m then gp_put (a m) (16 * (i % 4)) 16 r else a m
theorem gp_a8_s {a : Nat → Int64} {i r : Nat} (hr : r < 2 ^ 16) : gp_w8 (gp_a8 a i r) i = r := by
  unfold gp_w8 gp_a8
  rw [if_pos rfl]
  exact gp_put_s (by omega) hr
theorem gp_a8_o {a : Nat → Int64} {i j r : Nat} (hr : r < 2 ^ 16) (h : j ≠ i) : gp_w8 (gp_a8 a i r) j = gp_w8 a j := by
  unfold gp_w8 gp_a8
  by_cases e : i / 4 = j / 4
  · rw [if_pos e]
    exact gp_put_o (by omega) hr (by omega)
  · rw [if_neg e]
theorem gp_w8_lt (a : Nat → Int64) (j : Nat) : gp_w8 a j < 65536 := gp_fd_lt _ _ 16
theorem gp_emp (j : Nat) : gp_w8 (fun _ => 287953294993589247) j = 1023 := by
  have h : ∀ m, m < 4 → gp_fd 287953294993589247 (16 * m) 16 = 1023 := by decide +kernel
  exact h (j % 4) (by omega)
/-- nibbles: f k, f (k + 1), .. m of them -/
def gp_nb (f : Nat → Nat) : Nat → Nat → Nat
  | _, 0 => 0
  | k, m + 1 => f k + 16 * gp_nb f (k + 1) m
theorem gp_nb_lt {f : Nat → Nat} {m : Nat} : ∀ k, (∀ j, k ≤ j → j < k + m → f j < 16) → gp_nb f k m < 2 ^ (4 * m) := by
  induction m with
  | zero => exact fun k _ => by show 0 < 2 ^ (4 * 0); decide
  | succ m ih =>
    intro k h
    have a := ih (k + 1) (fun j h1 h2 => h j (by omega) (by omega))
    have d := h k (by omega) (by omega)
    show f k + 16 * gp_nb f (k + 1) m < 2 ^ (4 * (m + 1))
    rw [show 4 * (m + 1) = 4 * m + 4 by omega, Nat.pow_add]
    generalize 2 ^ (4 * m) = p at a ⊢
    omega
theorem gp_nb_s {f : Nat → Nat} {m : Nat} : ∀ k, gp_nb f k (m + 1) = gp_nb f k m + f (k + m) * 2 ^ (4 * m) := by
  induction m with
  | zero => exact fun k => by show f k + 16 * 0 = 0 + f k * 1; omega
  | succ m ih =>
    intro k
    show f k + 16 * gp_nb f (k + 1) (m + 1) = f k + 16 * gp_nb f (k + 1) m + f (k + (m + 1)) * 2 ^ (4 * (m + 1))
    rw [ih (k + 1), show 4 * (m + 1) = 4 * m + 4 by omega, Nat.pow_add, show k + 1 + m = k + (m + 1) by omega]
    generalize 2 ^ (4 * m) = p
    generalize gp_nb f (k + 1) m = y
    generalize f (k + (m + 1)) = z
    have e : z * (p * 2 ^ 4) = 16 * (z * p) := by rw [← Nat.mul_assoc, Nat.mul_comm (z * p)]
    rw [e]
    omega
theorem gp_nb_c {f g : Nat → Nat} {m : Nat} : ∀ k, (∀ j, k ≤ j → j < k + m → f j = g j) → gp_nb f k m = gp_nb g k m := by
  induction m with
  | zero => exact fun _ _ => rfl
  | succ m ih =>
    intro k h
    show f k + 16 * gp_nb f (k + 1) m = g k + 16 * gp_nb g (k + 1) m
    rw [h k (by omega) (by omega), ih (k + 1) (fun j h1 h2 => h j (by omega) (by omega))]
/-- bit t of a long, as it is printed -/
theorem gp_bit {w : Int64} {t : Nat} (ht : t < 64) : ((w.toUInt64 >>> ((nI t).toInt64.toUInt64 &&& Int64.toUInt64 63)).toInt64) &&& 1 = 0 ↔ ¬ gs_m w (t + 1) := by
  have e : (((nI t).toInt64.toUInt64 &&& Int64.toUInt64 63)).toNat = t := by
    rw [wb_cu t ht]
    show (BitVec.ofNat 64 t).toNat = t
    rw [BitVec.toNat_ofNat, Nat.mod_eq_of_lt (by omega)]
  rw [ts_bit ht e]
  unfold gs_m
  rw [Nat.add_sub_cancel]
  constructor
  · intro h z
    rw [h] at z
    exact Bool.noConfusion z.2.2
  · intro h
    exact ts_nt (fun z => h ⟨by omega, by omega, z⟩)
theorem gp_bitS {w : Int64} {t : Nat} (ht : t < 64) (s : Nat) : gs_m (w ||| ((1 : Int64) <<< ((nI t).toInt64 &&& 63))) s ↔ gs_m w s ∨ s = t + 1 := by
  rw [show (1 : Int64) = lN 1 from rfl, wb_shl 1 ht, Nat.one_mul, gs_m_or]
  have := gs_m_bit (t := t + 1) (by omega) (by omega) s
  unfold gs_bit at this
  rw [Nat.add_sub_cancel] at this
  rw [this]
