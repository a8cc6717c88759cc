/-! a step of the law, up to its head -/
theorem gl_and2 : ∀ z, z < 8 → nI z &&& 2 = 0 → (z < 2 ∨ (4 ≤ z ∧ z < 6)) := by decide +kernel
def gl_bg (e : Nat) : Nat := if e = 0 then 0 else 4 + (e - 1) / 3
section
variable {post : Int32 → Prop} {L : Nat} {xs : Nat → Int32} {J61 : Int64 → Int64 → Int64 → Int64 → Int64 → Int64 → Int32 → Int32 → Int32 → Int32 → Int32 → Int32 → (Nat → Int32) → (Nat → Int64) → (Nat → Int64) → (Nat → Int32) → (Nat → Int32) → (Nat → Int32) → (Nat → Int32) → (Nat → Int32) → Prop} {J123 : Int64 → Int64 → Int64 → Int64 → Int64 → Int64 → Int64 → Int64 → Int64 → Int64 → Int64 → Int64 → Int64 → Int64 → Int32 → Int32 → Int32 → Int32 → Int32 → Int32 → Int32 → (Nat → Int32) → (Nat → Int64) → (Nat → Int64) → (Nat → Int32) → (Nat → Int32) → (Nat → Int32) → (Nat → Int32) → (Nat → Int32) → Prop} {hd : Int32} {y nn bl u i kc ks : Nat} {o a : Nat → Int64} {sn vl : Int64} {sl it : Int32} {b n c : Nat} {st : Nat → Int32} {pr rf : Nat → Int64} {lt li lk lv so : Nat → Int32} {T : Nat → Nat} {X K A : Nat → Int32} {F : Nat → Nat → Prop} {q : Nat → Nat} {N cs : Nat → Nat} {e k0 : Nat}
theorem gl_291 {p d : Nat} (hB : gl_B L xs y bl i k0 b n c o a sn vl sl it st so pr rf lt li lk lv T X K A F q N cs) (hLL : L ≤ 260) (hbl : bl < 4) (hy1 : 1 ≤ y) (hy : y ≤ 4) (hu : u = k0 - cs bl) (hi : i < 32) (hp : p = gl_p L xs (32 * bl + i)) (hd' : d = gl_c L xs (32 * bl + i)) (k : (∀ (n c : Nat) (o a : Nat → Int64) (sn vl : Int64) (st so : Nat → Int32) (pr rf : Nat → Int64) (lt li lk lv : Nat → Int32) (T : Nat → Nat) (X K A : Nat → Int32) (F : Nat → Nat → Prop) (q N : Nat → Nat), gl_B L xs y bl (i + 1) c b n c o a sn vl sl it st so pr rf lt li lk lv T X K A F q N cs → J123 (o 0) (o 1) (o 2) (o 3) sn vl (a 0) (a 1) (a 2) (a 3) (a 4) (a 5) (a 6) (a 7) (nI (c - cs bl)) (nI (i + 1)) sl it (nI b) (nI n) (nI c) st pr rf lt li lk lv so)) :
    wL_law_291 post L xs J61 J123 hd (nI y) (nI nn) (o 0) (o 1) (o 2) (o 3) sn vl (nI bl) (a 0) (a 1) (a 2) (a 3) (a 4) (a 5) (a 6) (a 7) (nI (14 * bl)) (nI u) (nI i) (nI (32 * bl + i)) (nI p) (nI d) kc ks sl it (nI b) (nI n) (nI c) st pr rf lt li lk lv so := by
  have J := hB.1
  have hb := hB.2.2.1
  have hpl : p < 65536 := by rw [hp]; exact gl_p_lt _ _ _
  have hdl : d < 65536 := by rw [hd']; exact gl_c_lt _ _ _
  have him : gl_item p d y < y := Nat.mod_lt _ (by omega)
  have htl : 14 * bl + gl_rel i d < 1000 := by unfold gl_rel; omega
  have go : ∀ wv, (wv = 0 ∨ (wv = gs_wrt T (gs_lst (gs_Wr T X K st (nI (gl_item p d y))) n) ∧ wv ≠ 14 * bl + gl_rel i d ∧ (1 ≤ wv ∧ wv ≤ b) ∧ gs_un (st wv) ∧ (p % 8 < 2 ∨ (4 ≤ p % 8 ∧ p % 8 < 6)))) →
      wL_law_384 post L xs J61 J123 hd (nI y) (nI nn) (o 0) (o 1) (o 2) (o 3) sn vl (nI bl) (a 0) (a 1) (a 2) (a 3) (a 4) (a 5) (a 6) (a 7) (nI (14 * bl)) (nI u) (nI i) (nI d) (nI (14 * bl + gl_rel i d)) (nI (gl_item p d y)) (nI (gl_am p d (32 * bl + i))) (nI (p % 8)) (nI wv) (-1) kc ks sl it (nI b) (nI n) (nI c) st pr rf lt li lk lv so :=
    fun wv hwv => gl_384 hB hLL hbl hy1 hy hu hi hp hd' rfl rfl rfl hwv k
  have g0 : wL_law_381 post L xs J61 J123 hd (nI y) (nI nn) (o 0) (o 1) (o 2) (o 3) sn vl (nI bl) (a 0) (a 1) (a 2) (a 3) (a 4) (a 5) (a 6) (a 7) (nI (14 * bl)) (nI u) (nI i) (nI d) (nI (14 * bl + gl_rel i d)) (nI (gl_item p d y)) (nI (gl_am p d (32 * bl + i))) (nI (p % 8)) (-1) kc ks sl it (nI b) (nI n) (nI c) st pr rf lt li lk lv so := by
    unfold wL_law_381
    exact go 0 (Or.inl rfl)
  have e7 : nI p &&& 7 = nI (p % 8) := pk_andN (by omega) 3 (by decide)
  unfold wL_law_291
  refine gl_relW (by omega) hdl (nm_r (nI_add (14 * bl) (gl_rel i d)) ?_)
  refine gl_itemW hpl hdl hy1 hy (gl_amW hpl hdl (by omega) (nm_r e7 ?_))
  refine br_c (fun e2 => ?_) (fun e2 => go 0 (Or.inl rfl))
  have hk8 := gl_and2 (p % 8) (by omega) e2
  refine gx_writer J.2.1 J.1.2.1 (by omega) hB.2.1.1 him (by omega) rfl (fun hw ho => ?_) (fun hw => ?_)
  · refine gx_status (by omega) (by omega) (fun _ _ => ?_) (fun z => absurd z (by omega))
    refine pk_eq _ (14 * bl + gl_rel i d) (fun _ => g0) (fun ne => br_c (fun s1 => go _ (Or.inr ⟨rfl, ne, hw, Or.inl s1, hk8⟩)) (fun _ => br_c (fun s2 => go _ (Or.inr ⟨rfl, ne, hw, Or.inr s2, hk8⟩)) (fun _ => g0))) rfl rfl (by omega) (by omega)
  · exact gx_status (j := 0) (by omega) (by omega) (fun z => absurd z (by omega)) (fun _ => br_c (fun _ => g0) (fun _ => br_f (by decide) (br_f (by decide) g0)))
theorem gl_274 {p d b0 cnt : Nat} {st0 : Nat → Int32} (hB : gl_B L xs y bl i k0 b0 n c o a sn vl sl it st0 so pr rf lt li lk lv T X K A F q N cs) (hcnt : b0 + cnt = b) (hbb : b ≤ 14 * bl + 14) (hLL : L ≤ 260) (hbl : bl < 4) (hy1 : 1 ≤ y) (hy : y ≤ 4) (hu : u = k0 - cs bl) (hi : i < 32) (hp : p = gl_p L xs (32 * bl + i)) (hd' : d = gl_c L xs (32 * bl + i)) (k : (∀ (n c : Nat) (o a : Nat → Int64) (sn vl : Int64) (st so : Nat → Int32) (pr rf : Nat → Int64) (lt li lk lv : Nat → Int32) (T : Nat → Nat) (X K A : Nat → Int32) (F : Nat → Nat → Prop) (q N : Nat → Nat), gl_B L xs y bl (i + 1) c b n c o a sn vl sl it st so pr rf lt li lk lv T X K A F q N cs → J123 (o 0) (o 1) (o 2) (o 3) sn vl (a 0) (a 1) (a 2) (a 3) (a 4) (a 5) (a 6) (a 7) (nI (c - cs bl)) (nI (i + 1)) sl it (nI b) (nI n) (nI c) st pr rf lt li lk lv so)) :
    ∃ fu, wL_law_274 post L xs J61 J123 hd (nI y) (nI nn) (o 0) (o 1) (o 2) (o 3) sn vl (nI bl) (a 0) (a 1) (a 2) (a 3) (a 4) (a 5) (a 6) (a 7) (nI (14 * bl)) (nI u) (nI i) (nI (32 * bl + i)) (nI p) (nI d) kc ks fu (nI cnt) sl it (nI b0) (nI n) (nI c) st0 pr rf lt li lk lv so := by
  refine ⟨cnt + 1, ?_⟩
  refine pk_loopD (σ := Nat × (Nat → Int32)) (fun m j s => wL_law_274 post L xs J61 J123 hd (nI y) (nI nn) (o 0) (o 1) (o 2) (o 3) sn vl (nI bl) (a 0) (a 1) (a 2) (a 3) (a 4) (a 5) (a 6) (a 7) (nI (14 * bl)) (nI u) (nI i) (nI (32 * bl + i)) (nI p) (nI d) kc ks m (nI j) sl it (nI s.1) (nI n) (nI c) s.2 pr rf lt li lk lv so) (fun j s => s.1 + j = b ∧ gl_B L xs y bl i k0 s.1 n c o a sn vl sl it s.2 so pr rf lt li lk lv T X K A F q N cs) ?_ ?_ cnt (b0, st0) ⟨hcnt, hB⟩
  · rintro m ⟨b2, st2⟩ ⟨g1, g2⟩
    dsimp only at g1 g2 ⊢
    obtain rfl : b2 = b := by omega
    exact pk_le 0 0 (fun _ => gl_291 g2 hLL hbl hy1 hy hu hi hp hd' k) (fun z => absurd z (by omega))
  · rintro m j ⟨b2, st2⟩ ⟨g1, g2⟩ kk
    dsimp only at g1 g2 kk ⊢
    refine pk_le (j + 1) 0 (fun z => absurd z (by omega)) (fun _ => ?_) rfl rfl (by omega) (by omega)
    exact gx_begin (by omega) g2.2.1.2 (gl_B_cnt g2 (by omega)) (nm_r (pk_m1 j) (kk (b2 + 1, upd st2 (b2 + 1) 1) ⟨by show b2 + 1 + j = b; omega, gl_B_bg g2 hbl (by omega)⟩))
theorem gl_262 {p d b1 : Nat} (hB : gl_B L xs y bl i k0 b n c o a sn vl sl it st so pr rf lt li lk lv T X K A F q N cs) (hb1 : b1 = b + (if i = 0 then 4 else 1)) (hbb : b1 ≤ 14 * bl + 14) (hLL : L ≤ 260) (hbl : bl < 4) (hy1 : 1 ≤ y) (hy : y ≤ 4) (hu : u = k0 - cs bl) (hi : i < 32) (hp : p = gl_p L xs (32 * bl + i)) (hd' : d = gl_c L xs (32 * bl + i)) (k : (∀ (n c : Nat) (o a : Nat → Int64) (sn vl : Int64) (st so : Nat → Int32) (pr rf : Nat → Int64) (lt li lk lv : Nat → Int32) (T : Nat → Nat) (X K A : Nat → Int32) (F : Nat → Nat → Prop) (q N : Nat → Nat), gl_B L xs y bl (i + 1) c b1 n c o a sn vl sl it st so pr rf lt li lk lv T X K A F q N cs → J123 (o 0) (o 1) (o 2) (o 3) sn vl (a 0) (a 1) (a 2) (a 3) (a 4) (a 5) (a 6) (a 7) (nI (c - cs bl)) (nI (i + 1)) sl it (nI b1) (nI n) (nI c) st pr rf lt li lk lv so)) :
    wL_law_262 post L xs J61 J123 hd (nI y) (nI nn) (o 0) (o 1) (o 2) (o 3) sn vl (nI bl) (a 0) (a 1) (a 2) (a 3) (a 4) (a 5) (a 6) (a 7) (nI (14 * bl)) (nI u) (nI i) (nI (32 * bl + i)) (nI p) (nI d) kc ks sl it (nI b) (nI n) (nI c) st pr rf lt li lk lv so := by
  unfold wL_law_262
  refine pk_eq i 0 (fun e => ?_) (fun e => ?_)
  · rw [if_pos e] at hb1
    exact gl_274 (cnt := 4) hB hb1.symm hbb hLL hbl hy1 hy hu hi hp hd' k
  · rw [if_neg e] at hb1
    exact gl_274 (cnt := 1) hB hb1.symm hbb hLL hbl hy1 hy hu hi hp hd' k
theorem gl_156a {b1 : Nat} (hB : gl_B L xs y bl i k0 b n c o a sn vl sl it st so pr rf lt li lk lv T X K A F q N cs) (hb : b = 14 * bl + gl_bg i) (hb1 : b1 = 14 * bl + gl_bg (i + 1)) (hLL : L ≤ 260) (hbl : bl < 4) (hy1 : 1 ≤ y) (hy : y ≤ 4) (hu : u = k0 - cs bl) (hi : i < 32) (k : (∀ (n c : Nat) (o a : Nat → Int64) (sn vl : Int64) (st so : Nat → Int32) (pr rf : Nat → Int64) (lt li lk lv : Nat → Int32) (T : Nat → Nat) (X K A : Nat → Int32) (F : Nat → Nat → Prop) (q N : Nat → Nat), gl_B L xs y bl (i + 1) c b1 n c o a sn vl sl it st so pr rf lt li lk lv T X K A F q N cs → J123 (o 0) (o 1) (o 2) (o 3) sn vl (a 0) (a 1) (a 2) (a 3) (a 4) (a 5) (a 6) (a 7) (nI (c - cs bl)) (nI (i + 1)) sl it (nI b1) (nI n) (nI c) st pr rf lt li lk lv so)) :
    wL_law_156 post L xs J61 J123 hd (nI y) (nI nn) (o 0) (o 1) (o 2) (o 3) sn vl (nI bl) (a 0) (a 1) (a 2) (a 3) (a 4) (a 5) (a 6) (a 7) (nI (14 * bl)) (nI u) (nI i) (nI (32 * bl + i)) kc ks sl it (nI b) (nI n) (nI c) st pr rf lt li lk lv so := by
  have e3 : nI i - nI i / 3 * 3 = nI (i % 3) := pk_rem (d := 3) (by omega) (by omega) (by omega)
  have hbg : i % 3 = 0 → gl_bg (i + 1) = gl_bg i + (if i = 0 then 4 else 1) := by
    intro z
    unfold gl_bg
    by_cases e0 : i = 0
    · subst e0
      rfl
    · rw [if_neg (by omega), if_neg e0, if_neg e0]
      omega
  have hbn : i % 3 ≠ 0 → gl_bg (i + 1) = gl_bg i := by
    intro z
    unfold gl_bg
    rw [if_neg (by omega), if_neg (by omega)]
    omega
  have hb14 : gl_bg (i + 1) ≤ 14 := by
    unfold gl_bg
    rw [if_neg (by omega)]
    omega
  unfold wL_law_156
  refine pk_lt i 32 (fun _ => ?_) (fun z => absurd z (by omega))
  rw [gl_j1, gl_j2]
  refine gl_cellW hLL (by omega) (nm_r (gl_p_e L xs (32 * bl + i)) ?_)
  refine gl_cellW hLL (by omega) (nm_r (gl_c_e L xs (32 * bl + i)) ⟨by decide, ?_⟩)
  rw [e3]
  refine pk_eq (i % 3) 0 (fun z => ?_) (fun z => ?_)
  · have hb2 : b1 = b + (if i = 0 then 4 else 1) := by
      rw [hb1, hb, hbg z]
      omega
    have g : wL_law_262 post L xs J61 J123 hd (nI y) (nI nn) (o 0) (o 1) (o 2) (o 3) sn vl (nI bl) (a 0) (a 1) (a 2) (a 3) (a 4) (a 5) (a 6) (a 7) (nI (14 * bl)) (nI u) (nI i) (nI (32 * bl + i)) (nI (gl_p L xs (32 * bl + i))) (nI (gl_c L xs (32 * bl + i))) kc ks sl it (nI b) (nI n) (nI c) st pr rf lt li lk lv so := gl_262 hB hb2 (by omega) hLL hbl hy1 hy hu hi rfl rfl k
    refine pk_le i 0 (fun _ => g) (fun _ => br_c (fun _ => ⟨by decide, ?_⟩) (fun _ => g))
    exact gx_commit hB.1 (fun r c' st' so' q' g1 g2 g3 g4 _ => gl_262 (gl_B_call hB g1 g2 g3 g4) hb2 (by omega) hLL hbl hy1 hy hu hi rfl rfl k)
  · obtain rfl : b1 = b := by rw [hb1, hb, hbn z]
    exact gl_291 hB hLL hbl hy1 hy hu hi rfl rfl k
theorem gl_156b {tt : Nat} (hB : gl_B L xs y bl e k0 b n c o a sn vl sl it st so pr rf lt li lk lv T X K A F q N cs) (hLL : L ≤ 260) (hbl : bl < 4) (hy1 : 1 ≤ y) (hy : y ≤ 4) (hu : u = k0 - cs bl) (hi : 32 ≤ i) (hi2 : i < 46) (htt : ((hd >>> ((2 + nI bl) &&& 31)) &&& 1 = 0 ∧ tt = 14 * bl + (i - 31)) ∨ (¬ (hd >>> ((2 + nI bl) &&& 31)) &&& 1 = 0 ∧ tt = 14 * bl + (46 - i)))
    (k : ∀ (c : Nat) (o : Nat → Int64) (sn vl : Int64) (st' so : Nat → Int32) (q : Nat → Nat), gl_B L xs y bl e c b n c o a sn vl sl it st' so pr rf lt li lk lv T X K A F q N cs → gp_st b st st' → (tt ≤ b → ¬ st' tt = 1) → J123 (o 0) (o 1) (o 2) (o 3) sn vl (a 0) (a 1) (a 2) (a 3) (a 4) (a 5) (a 6) (a 7) (nI (c - cs bl)) (nI (i + 1)) sl it (nI b) (nI n) (nI c) st' pr rf lt li lk lv so) :
    wL_law_156 post L xs J61 J123 hd (nI y) (nI nn) (o 0) (o 1) (o 2) (o 3) sn vl (nI bl) (a 0) (a 1) (a 2) (a 3) (a 4) (a 5) (a 6) (a 7) (nI (14 * bl)) (nI u) (nI i) (nI (32 * bl + i)) kc ks sl it (nI b) (nI n) (nI c) st pr rf lt li lk lv so := by
  have go : wpX_commit (fun r_404 uu => match uu with | (fm28_slots_405, fm28_items_406, fm28_begun_407, fm28_logLength_408, fm28_settledCount_409, am1921_412, am1922_415, am1923_418, am1924_421, am1925_424, am1926_427, am1927_430, am1928_433) => (∃ fu649 : Nat, wL_law_649 post L xs J61 J123 hd (nI y) (nI nn) (o 0) (o 1) (o 2) (o 3) sn vl (nI bl) (a 0) (a 1) (a 2) (a 3) (a 4) (a 5) (a 6) (a 7) (nI (14 * bl)) (nI u) (nI i) kc ks fm28_slots_405 fm28_items_406 fm28_begun_407 fm28_logLength_408 fm28_settledCount_409 am1921_412 am1922_415 am1923_418 am1924_421 am1925_424 am1926_427 am1927_430 am1928_433 fu649 0 0)) (sl, it, nI b, nI n, nI c, st, pr, rf, lt, li, lk, lv, so) (nI tt) := by
    refine gx_commit hB.1 (fun r c' st' so' q' g1 g2 g3 g4 g5 => ?_)
    exact gl_chk (gl_B_call hB g1 g2 g3 g4) hLL hbl hy1 hy hu (fun o sn vl hB' => k c' o sn vl st' so' q' hB' g2 (fun z => g5 tt (by omega) z rfl))
  have e31 : nI i - 31 = nI (i - 31) := pk_sub (b := 31) (by omega)
  have e46 : 46 - nI i = nI (46 - i) := pk_sub (a := 46) (by omega)
  unfold wL_law_156
  refine pk_lt i 32 (fun z => absurd z (by omega)) (fun _ => ?_)
  rcases htt with ⟨z, e⟩ | ⟨z, e⟩
  · refine br_t z ?_
    unfold wL_law_191
    rw [e31, nI_add, ← e]
    exact go
  · refine br_f z ?_
    unfold wL_law_191
    rw [e46, nI_add, ← e]
    exact go
end
