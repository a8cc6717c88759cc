/-! the law's small methods -/
def gl_cell (L : Nat) (xs : Nat → Int32) (k : Nat) : Int32 := if k < L then xs k else 0
theorem gl_cellW {post : Int32 → Prop} {L : Nat} {xs : Nat → Int32} {k : Nat} (hL : L ≤ 260) (hk : k < 2 ^ 30) (hp : post (gl_cell L xs k)) : wpL_cell post L xs () (nI k) := by
  unfold gl_cell at hp
  unfold wpL_cell
  refine pk_le L k (fun h => ?_) (fun h => ⟨vp_in_nI h (by omega), ?_⟩)
  · rw [if_neg (by omega)] at hp
    exact hp
  · rw [if_pos h] at hp
    rw [nI_clamp (show k < 2 ^ 31 by omega)]
    exact hp
def gl_p (L : Nat) (xs : Nat → Int32) (g : Nat) : Nat := (gl_cell L xs (1 + 2 * g)).toBitVec.toNat % 2 ^ 16
def gl_c (L : Nat) (xs : Nat → Int32) (g : Nat) : Nat := (gl_cell L xs (2 + 2 * g)).toBitVec.toNat % 2 ^ 16
theorem gl_p_lt (L : Nat) (xs : Nat → Int32) (g : Nat) : gl_p L xs g < 65536 := Nat.mod_lt _ (by decide)
theorem gl_c_lt (L : Nat) (xs : Nat → Int32) (g : Nat) : gl_c L xs g < 65536 := Nat.mod_lt _ (by decide)
theorem gl_p_e (L : Nat) (xs : Nat → Int32) (g : Nat) : gl_cell L xs (1 + 2 * g) &&& 65535 = nI (gl_p L xs g) := pk_and _ 16 (by decide)
theorem gl_c_e (L : Nat) (xs : Nat → Int32) (g : Nat) : gl_cell L xs (2 + 2 * g) &&& 65535 = nI (gl_c L xs g) := pk_and _ 16 (by decide)
def gl_rel (i d : Nat) : Nat := i / 3 + d % 4 + 1
def gl_item (p d y : Nat) : Nat := (d / 4 + p / 8) % y
def gl_am (p d g : Nat) : Nat := (37 * p + 11 * d + 101 * g) % 1000
theorem gl_relW {post : Int32 → Prop} {i d : Nat} (hi : i < 65536) (hd : d < 65536) (hp : post (nI (gl_rel i d))) : wpL_rel post () (nI i) (nI d) := by
  unfold wpL_rel
  refine ⟨by decide, ?_⟩
  have e : (nI i / 3 + (nI d &&& 3)) + 1 = nI (gl_rel i d) := by
    have e1 : nI i / 3 = nI (i / 3) := pk_div (d := 3) (by omega) (by omega) (by omega)
    rw [e1, pk_andN (by omega) 2 (by decide), nI_add, nI_1]
    rfl
  rw [e]
  exact hp
theorem gl_itemW {post : Int32 → Prop} {p d y : Nat} (hp' : p < 65536) (hd : d < 65536) (hy : 1 ≤ y) (hy4 : y ≤ 4) (hp : post (nI (gl_item p d y))) : wpL_item post () (nI p) (nI d) (nI y) := by
  unfold wpL_item
  refine ⟨by decide, nI_ne0 (by omega) (by omega), ?_⟩
  have e1 : nI d >>> ((2 : Int32) &&& 31) = nI (d / 4) := pk_shrN (by omega) _ 2 (by decide)
  have e2 : nI p / 8 = nI (p / 8) := pk_div (d := 8) (by omega) (by omega) (by omega)
  rw [e1, e2, nI_add, pk_rem (by omega) (by omega) (by omega)]
  exact hp
theorem gl_amW {post : Int32 → Prop} {p d g : Nat} (hp' : p < 65536) (hd : d < 65536) (hg : g < 65536) (hp : post (nI (gl_am p d g))) : wpL_amount post () (nI p) (nI d) (nI g) := by
  unfold wpL_amount
  refine ⟨by decide, ?_⟩
  have e : (37 : Int32) * nI p + 11 * nI d + 101 * nI g = nI (37 * p + 11 * d + 101 * g) := by
    have e1 : (37 : Int32) * nI p = nI (37 * p) := pk_mul 37 p
    have e2 : (11 : Int32) * nI d = nI (11 * d) := pk_mul 11 d
    have e3 : (101 : Int32) * nI g = nI (101 * g) := pk_mul 101 g
    rw [e1, e2, e3, nI_add, nI_add]
  rw [e]
  have e4 := pk_rem (a := 37 * p + 11 * d + 101 * g) (d := 1000) (by omega) (by omega) (by omega)
  have e5 : nI (37 * p + 11 * d + 101 * g) - nI (37 * p + 11 * d + 101 * g) / 1000 * 1000 = nI (gl_am p d g) := e4
  rw [e5]
  exact hp
theorem gl_ix1 (bl j : Nat) : (1 : Int32) + 2 * (32 * nI bl + nI j) = nI (1 + 2 * (32 * bl + j)) := by
  have e1 : (32 : Int32) * nI bl = nI (32 * bl) := pk_mul 32 bl
  rw [e1, nI_add]
  have e2 : (2 : Int32) * nI (32 * bl + j) = nI (2 * (32 * bl + j)) := pk_mul 2 _
  rw [e2]
  exact nI_add 1 _
theorem gl_ix2 (bl j : Nat) : (2 : Int32) + 2 * (32 * nI bl + nI j) = nI (2 + 2 * (32 * bl + j)) := by
  have e1 : (32 : Int32) * nI bl = nI (32 * bl) := pk_mul 32 bl
  rw [e1, nI_add]
  have e2 : (2 : Int32) * nI (32 * bl + j) = nI (2 * (32 * bl + j)) := pk_mul 2 _
  rw [e2]
  exact nI_add 2 _
theorem gl_g (bl j : Nat) : (32 : Int32) * nI bl + nI j = nI (32 * bl + j) := by
  have e1 : (32 : Int32) * nI bl = nI (32 * bl) := pk_mul 32 bl
  rw [e1, nI_add]
theorem gl_j1 (g : Nat) : (1 : Int32) + 2 * nI g = nI (1 + 2 * g) := by
  have e2 : (2 : Int32) * nI g = nI (2 * g) := pk_mul 2 _
  rw [e2]
  exact nI_add 1 _
theorem gl_j2 (g : Nat) : (2 : Int32) + 2 * nI g = nI (2 + 2 * g) := by
  have e2 : (2 : Int32) * nI g = nI (2 * g) := pk_mul 2 _
  rw [e2]
  exact nI_add 2 _
