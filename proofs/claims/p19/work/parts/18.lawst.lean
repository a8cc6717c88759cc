/-! the state of the law within a block -/
def gl_B (L : Nat) (xs : Nat → Int32) (y bl e k0 b n c : Nat) (o a : Nat → Int64) (sn vl : Int64) (sl it : Int32) (st so : Nat → Int32) (pr rf : Nat → Int64) (lt li lk lv : Nat → Int32) (T : Nat → Nat) (X K A : Nat → Int32) (F : Nat → Nat → Prop) (q N cs : Nat → Nat) : Prop :=
  gp_J b n c st so pr rf T X K lt li lk lv A F q ∧ (it = nI y ∧ sl = nI 16) ∧ (14 * bl ≤ b ∧ b ≤ 14 * bl + 14) ∧ (∀ t, 1 ≤ t → t ≤ 14 * bl → st t = 4 ∨ st t = 5) ∧ gl_N L xs y bl n N T X K A lv a ∧ gl_C bl c cs q ∧ cs bl = gs_cnt (fun t => st t = 4) (14 * bl) ∧ (cs bl ≤ k0 ∧ k0 ≤ c) ∧ gl_O bl k0 cs q o ∧
    (∀ t, 1 ≤ t → t ≤ 62 → (gs_m sn (t + 1) ↔ ∃ m, m < k0 ∧ q m = t)) ∧ (∀ x, x < y → nI (gp_fd vl (10 * x) 10) = gp_sv q k0 n T X K lv (nI x)) ∧ (∀ j, j < 32 → gp_w8 a j / 1024 ≠ 0 → F (14 * bl + gl_rel j (gl_c L xs (32 * bl + j))) (14 * bl + gp_w8 a j / 1024)) ∧ (∀ j, e ≤ j → j < 32 → gp_w8 a j = 1023)
theorem gs_cnt_add (P : Nat → Prop) (m d : Nat) : gs_cnt P (m + d) ≤ gs_cnt P m + d := by
  induction d with
  | zero => exact Nat.le_refl _
  | succ d ih =>
    by_cases h : P (m + d + 1)
    · rw [show m + (d + 1) = m + d + 1 from rfl, gs_cnt_t h]; omega
    · rw [show m + (d + 1) = m + d + 1 from rfl, gs_cnt_f h]; omega
section
variable {post : Int32 → Prop} {L : Nat} {xs : Nat → Int32} {J61 : Int64 → Int64 → Int64 → Int64 → Int64 → Int64 → Int32 → Int32 → Int32 → Int32 → Int32 → Int32 → (Nat → Int32) → (Nat → Int64) → (Nat → Int64) → (Nat → Int32) → (Nat → Int32) → (Nat → Int32) → (Nat → Int32) → (Nat → Int32) → Prop} {J123 : Int64 → Int64 → Int64 → Int64 → Int64 → Int64 → Int64 → Int64 → Int64 → Int64 → Int64 → Int64 → Int64 → Int64 → Int32 → Int32 → Int32 → Int32 → Int32 → Int32 → Int32 → (Nat → Int32) → (Nat → Int64) → (Nat → Int64) → (Nat → Int32) → (Nat → Int32) → (Nat → Int32) → (Nat → Int32) → (Nat → Int32) → Prop} {hd : Int32} {y nn bl u i kc ks : Nat} {o a : Nat → Int64} {sn vl : Int64} {sl it : Int32} {b n c : Nat} {st : Nat → Int32} {pr rf : Nat → Int64} {lt li lk lv so : Nat → Int32} {T : Nat → Nat} {X K A : Nat → Int32} {F : Nat → Nat → Prop} {q : Nat → Nat} {N cs : Nat → Nat} {e k0 : Nat}
theorem gl_B_call {c' : Nat} {st' so' : Nat → Int32} {p' : Nat → Int64} {q' : Nat → Nat} (h : gl_B L xs y bl e k0 b n c o a sn vl sl it st so pr rf lt li lk lv T X K A F q N cs) (hJ : gp_J b n c' st' so' p' rf T X K lt li lk lv A F q') (hst : gp_st b st st') (hcc : c ≤ c') (hqq : ∀ k, k < c → q' k = q k) : gl_B L xs y bl e k0 b n c' o a sn vl sl it st' so' p' rf lt li lk lv T X K A F q' N cs := by
  obtain ⟨J, hi, hb, hfin, hN, hC, hcs, hk, hO, hsn, hvl, hrec, hemp⟩ := h
  have hQ := J.2.2.2.2.2.2.2.2.1
  have hQ' := hJ.2.2.2.2.2.2.2.2.1
  have hfin' : ∀ t, 1 ≤ t → t ≤ 14 * bl → st' t = 4 ∨ st' t = 5 := by
    intro t t1 t2
    have g := hst t t1 (by omega)
    exact (hfin t t1 t2).imp g.1 g.2.1
  have hcs' : cs bl = gs_cnt (fun t => st' t = 4) (14 * bl) := by
    rw [hcs]
    refine gs_cnt_c (fun t t1 t2 => ?_)
    have g := hst t t1 (by omega)
    refine ⟨g.1, fun z => ?_⟩
    rcases hfin t t1 t2 with y | y
    · exact y
    · rw [g.2.1 y] at z
      exact absurd z (by decide)
  have hC' : gl_C bl c' cs q' := by
    obtain ⟨c1, c2, c3, c4, c5⟩ := hC
    have hCm := gl_C_mono (c := c) (q := q) ⟨c1, c2, c3, c4, c5⟩
    refine ⟨c1, fun e he => ⟨(c2 e he).1, (c2 e he).2.1, fun k k1 k2 => ?_⟩, by omega, ?_, fun k k1 k2 => ?_⟩
    · rw [hqq k (by have := hCm (e + 1) (by omega); omega)]
      exact (c2 e he).2.2 k k1 k2
    · have g := gs_cnt_add (fun t => st' t = 4) (14 * bl) (b - 14 * bl)
      rw [show 14 * bl + (b - 14 * bl) = b by omega, ← hQ'.1, ← hcs'] at g
      omega
    · by_cases kc : k < c
      · rw [hqq k kc]
        exact c5 k k1 kc
      · have g := hQ'.2.1 k k2
        refine ⟨?_, by omega⟩
        apply Classical.byContradiction
        intro hn
        have g2 := hst (q' k) g.2.1.1 g.2.1.2
        rcases hfin (q' k) g.2.1.1 (by omega) with z | z
        · obtain ⟨m, hm, em⟩ := hQ.2.2.2.1 (q' k) g.2.1.1 g.2.1.2 z
          have := hQ'.2.2.1 m k (by omega) k2 ((hqq m hm).trans em)
          omega
        · have z' := g2.2.1 z
          rw [g.2.2] at z'
          exact absurd z' (by decide)
  refine ⟨hJ, hi, hb, hfin', hN, hC', hcs', ⟨hk.1, by omega⟩, ?_, ?_, ?_, hrec, hemp⟩
  · intro e he
    rw [hO e he]
    refine congrArg lN (gp_nb_c (cs e) (fun j j1 j2 => ?_)).symm
    have hj : j < k0 := by
      by_cases e1 : e < bl
      · rw [gl_m_l e1] at j2
        have := gl_C_mono hC (e + 1) (by omega)
        have := (hC.2.1 e e1).1
        omega
      · by_cases e2 : e = bl
        · subst e2
          rw [gl_m_e] at j2
          omega
        · unfold gl_m at j2
          rw [if_neg e1, if_neg e2] at j2
          omega
    show q' j - 14 * e = q j - 14 * e
    rw [hqq j (by omega)]
  · intro t t1 t2
    rw [hsn t t1 t2]
    exact ⟨fun ⟨m, hm, em⟩ => ⟨m, hm, by rw [hqq m (by omega)]; exact em⟩, fun ⟨m, hm, em⟩ => ⟨m, hm, by rw [← hqq m (by omega)]; exact em⟩⟩
  · intro x hx
    rw [hvl x hx, gp_sv_q (fun m hm => hqq m (by omega))]
theorem gl_B_cnt (h : gl_B L xs y bl e k0 b n c o a sn vl sl it st so pr rf lt li lk lv T X K A F q N cs) (hb : b + 1 ≤ 14 * bl + 14) : gs_cnt (fun t => gs_op (st t)) b < 16 := by
  obtain ⟨J, hi, hb', hfin, _⟩ := h
  have g := gs_cnt_add (fun t => gs_op (st t)) (14 * bl) (b - 14 * bl)
  have z : gs_cnt (fun t => gs_op (st t)) (14 * bl) = gs_cnt (fun _ => False) (14 * bl) := gs_cnt_c (fun t t1 t2 => ⟨fun o => by
    rcases hfin t t1 t2 with y | y
    · rw [y] at o; exact absurd o (by unfold gs_op; decide)
    · rw [y] at o; exact absurd o (by unfold gs_op; decide), fun f => f.elim⟩)
  have z0 : ∀ m, gs_cnt (fun _ => False) m = 0 := by
    intro m
    induction m with
    | zero => rfl
    | succ m ih => rw [gs_cnt_f (fun f => f), ih]
  rw [z, z0, show 14 * bl + (b - 14 * bl) = b by omega] at g
  omega
theorem gl_B_bg (h : gl_B L xs y bl e k0 b n c o a sn vl sl it st so pr rf lt li lk lv T X K A F q N cs) (hbl : bl < 4) (hb : b + 1 ≤ 14 * bl + 14) : gl_B L xs y bl e k0 (b + 1) n c o a sn vl sl it (upd st (b + 1) 1) so pr rf lt li lk lv T X K A F q N cs := by
  obtain ⟨J, hi, hb', hfin, hN, hC, hcs, hk, hO, hsn, hvl, hrec, hemp⟩ := h
  refine ⟨gp_J_bg J (by omega), hi, ⟨by omega, by omega⟩, ?_, hN, hC, ?_, hk, hO, hsn, hvl, hrec, hemp⟩
  · intro t t1 t2
    rw [pk_un (by omega)]
    exact hfin t t1 t2
  · rw [hcs]
    exact gs_cnt_c (fun t _ t2 => by rw [pk_un (by omega)])
theorem gl_N_n (hN : gl_N L xs y bl n N T X K A lv a) (hemp : ∀ j, e ≤ j → j < 32 → gp_w8 a j = 1023) : ∀ d j, j + d = 32 → e ≤ j → N j = n := by
  intro d
  induction d with
  | zero => intro j hj _; rw [show j = 32 by omega]; exact hN.1
  | succ d ih =>
    intro j hj hej
    have g := ih (j + 1) (by omega) (by omega)
    rcases hN.2.2.2 j (by omega) with z | z
    · rw [← z.2]; exact g
    · have s := z.2.2.2.1
      rw [hemp j hej (by omega)] at s
      omega
/-- a step that entered nothing -/
theorem gl_B_no (h : gl_B L xs y bl i k0 b n c o a sn vl sl it st so pr rf lt li lk lv T X K A F q N cs) (hi : i < 32) : gl_B L xs y bl (i + 1) k0 b n c o (gp_a8 a i 1023) sn vl sl it st so pr rf lt li lk lv T X K A F q N cs := by
  obtain ⟨J, hi', hb', hfin, hN, hC, hcs, hk, hO, hsn, hvl, hrec, hemp⟩ := h
  have e8 : ∀ j, gp_w8 (gp_a8 a i 1023) j = gp_w8 a j := by
    intro j
    by_cases ej : j = i
    · rw [ej, gp_a8_s (by decide), hemp i (Nat.le_refl i) hi]
    · exact gp_a8_o (by decide) ej
  refine ⟨J, hi', hb', hfin, ⟨hN.1, hN.2.1, hN.2.2.1, fun j hj => ?_⟩, hC, hcs, hk, hO, hsn, hvl, fun j hj z => ?_, fun j j1 j2 => ?_⟩
  · rw [e8 j]
    exact hN.2.2.2 j hj
  · rw [e8 j] at z ⊢
    exact hrec j hj z
  · rw [e8 j]
    exact hemp j (by omega) j2
/-- a step that entered an entry -/
theorem gl_B_op {t s w : Nat} {x kd v A' : Int32} {p' r' : Nat → Int64} {F' : Nat → Nat → Prop} (h : gl_B L xs y bl i k0 b n c o a sn vl sl it st so pr rf lt li lk lv T X K A F q N cs) (hi : i < 32) (hst : st t = 1) (hs : s < 1000) (hw : w < 16)
    (hJ : gp_J b (n + 1) c st so p' r' (gs_apN T n t) (upd X n x) (upd K n kd) (upd lt n (nI t)) (upd li n x) (upd lk n kd) (upd lv n v) (upd A n A') F' q) (hF : ∀ t w, F t w → F' t w)
    (hE : gl_En L xs y bl i n s (gs_apN T n t) (upd X n x) (upd K n kd) (upd A n A') (upd lv n v)) (hr : w ≠ 0 → F' (14 * bl + gl_rel i (gl_c L xs (32 * bl + i))) (14 * bl + w)) :
    gl_B L xs y bl (i + 1) k0 b (n + 1) c o (gp_a8 a i (s + 1024 * w)) sn vl sl it st so p' r' (upd lt n (nI t)) (upd li n x) (upd lk n kd) (upd lv n v) (gs_apN T n t) (upd X n x) (upd K n kd) (upd A n A') F' q (fun j => if j ≤ i then N j else n + 1) cs := by
  obtain ⟨J, hi', hb', hfin, hN, hC, hcs, hk, hO, hsn, hvl, hrec, hemp⟩ := h
  have hr16 : s + 1024 * w < 2 ^ 16 := by omega
  have Nin := gl_N_n hN hemp (32 - i) i (by omega) (Nat.le_refl i)
  have hQ := J.2.2.2.2.2.2.2.2.1
  have e8 : ∀ j, j ≠ i → gp_w8 (gp_a8 a i (s + 1024 * w)) j = gp_w8 a j := fun j ej => gp_a8_o hr16 ej
  have e8i : gp_w8 (gp_a8 a i (s + 1024 * w)) i = s + 1024 * w := gp_a8_s hr16
  refine ⟨hJ, hi', hb', hfin, ⟨?_, ?_, ?_, ?_⟩, hC, hcs, hk, hO, hsn, ?_, ?_, ?_⟩
  · show (if 32 ≤ i then N 32 else n + 1) = n + 1
    rw [if_neg (by omega)]
  · intro f hf
    have hf' : f < N 0 := by
      have : (if 0 ≤ i then N 0 else n + 1) = N 0 := if_pos (Nat.zero_le i)
      rw [← this]
      exact hf
    have n0 := hN.2.2.1 0 (by omega)
    rw [gs_apN_n (by omega)]
    exact hN.2.1 f hf'
  · intro j hj
    show (if j ≤ i then N j else n + 1) ≤ n + 1
    by_cases ej : j ≤ i
    · rw [if_pos ej]
      have := hN.2.2.1 j hj
      omega
    · rw [if_neg ej]
      omega
  · intro j hj
    show (_ ∧ (if j + 1 ≤ i then N (j + 1) else n + 1) = (if j ≤ i then N j else n + 1)) ∨ ((if j + 1 ≤ i then N (j + 1) else n + 1) = (if j ≤ i then N j else n + 1) + 1 ∧ gl_En L xs y bl j (if j ≤ i then N j else n + 1) _ _ _ _ _ _)
    by_cases ej : j = i
    · subst ej
      rw [if_neg (show ¬ j + 1 ≤ j by omega), if_pos (Nat.le_refl j), Nin, e8i, show (s + 1024 * w) % 1024 = s by omega]
      exact Or.inr ⟨rfl, hE⟩
    · rw [e8 j ej]
      by_cases lt : j < i
      · rw [if_pos (show j + 1 ≤ i by omega), if_pos (show j ≤ i by omega)]
        rcases hN.2.2.2 j hj with z | z
        · exact Or.inl z
        · refine Or.inr ⟨z.1, ?_⟩
          have ne : N j ≠ n := by
            have := hN.2.2.1 (j + 1) (by omega)
            omega
          have g := z.2
          unfold gl_En at g ⊢
          rw [gs_apN_n ne, pk_un ne, pk_un ne, pk_un ne, pk_un ne]
          exact g
      · rw [if_neg (show ¬ j + 1 ≤ i by omega), if_neg (show ¬ j ≤ i by omega)]
        exact Or.inl ⟨by rw [hemp j (by omega) hj], rfl⟩
  · intro z hz
    rw [hvl z hz, gp_sv_a (fun m hm em => ?_)]
    have g := (hQ.2.1 m (by omega)).2.2
    rw [em, hst] at g
    exact absurd g (by decide)
  · intro j hj z
    by_cases ej : j = i
    · subst ej
      rw [e8i, show (s + 1024 * w) / 1024 = w by omega] at z ⊢
      exact hr z
    · rw [e8 j ej] at z ⊢
      exact hF _ _ (hrec j hj z)
  · intro j j1 j2
    rw [e8 j (by omega)]
    exact hemp j (by omega) j2
end
