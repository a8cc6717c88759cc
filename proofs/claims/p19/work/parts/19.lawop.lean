/-! a step of the law -/
theorem nx_or (a b : Nat) : nI a ||| nI b = nI (a ||| b) := by
  apply Int32.toBitVec_inj.1
  show BitVec.ofNat 32 a ||| BitVec.ofNat 32 b = BitVec.ofNat 32 (a ||| b)
  apply BitVec.eq_of_getLsbD_eq
  intro i hi
  simp [hi]
theorem gl_rec {s w : Nat} (hs : s < 1024) (hw : w < 16) : nI s ||| (nI w <<< ((10 : Int32) &&& 31)) = nI (s + 1024 * w) := by
  rw [pk_shlN _ 10 (by decide) (by omega), nx_or]
  have e := Nat.two_pow_add_eq_or_of_lt (i := 10) (b := s) (by omega) w
  rw [Nat.or_comm, Nat.mul_comm w, ← e]
  congr 1
  omega
section
variable {post : Int32 → Prop} {L : Nat} {xs : Nat → Int32} {J61 : Int64 → Int64 → Int64 → Int64 → Int64 → Int64 → Int32 → Int32 → Int32 → Int32 → Int32 → Int32 → (Nat → Int32) → (Nat → Int64) → (Nat → Int64) → (Nat → Int32) → (Nat → Int32) → (Nat → Int32) → (Nat → Int32) → (Nat → Int32) → Prop} {J123 : Int64 → Int64 → Int64 → Int64 → Int64 → Int64 → Int64 → Int64 → Int64 → Int64 → Int64 → Int64 → Int64 → Int64 → Int32 → Int32 → Int32 → Int32 → Int32 → Int32 → Int32 → (Nat → Int32) → (Nat → Int64) → (Nat → Int64) → (Nat → Int32) → (Nat → Int32) → (Nat → Int32) → (Nat → Int32) → (Nat → Int32) → Prop} {hd : Int32} {y nn bl u i kc ks : Nat} {o a : Nat → Int64} {sn vl : Int64} {sl it : Int32} {b n c : Nat} {st : Nat → Int32} {pr rf : Nat → Int64} {lt li lk lv so : Nat → Int32} {T : Nat → Nat} {X K A : Nat → Int32} {F : Nat → Nat → Prop} {q : Nat → Nat} {N cs : Nat → Nat} {e k0 : Nat}
theorem gl_chk (h : gl_B L xs y bl e k0 b n c o a sn vl sl it st so pr rf lt li lk lv T X K A F q N cs) (hLL : L ≤ 260) (hbl : bl < 4) (hy1 : 1 ≤ y) (hy : y ≤ 4) (hu : u = k0 - cs bl) (k : ∀ o sn vl, gl_B L xs y bl e c b n c o a sn vl sl it st so pr rf lt li lk lv T X K A F q N cs → J123 (o 0) (o 1) (o 2) (o 3) sn vl (a 0) (a 1) (a 2) (a 3) (a 4) (a 5) (a 6) (a 7) (nI (c - cs bl)) (nI (i + 1)) sl it (nI b) (nI n) (nI c) st pr rf lt li lk lv so) : ∃ fu, wL_law_649 post L xs J61 J123 hd (nI y) (nI nn) (o 0) (o 1) (o 2) (o 3) sn vl (nI bl) (a 0) (a 1) (a 2) (a 3) (a 4) (a 5) (a 6) (a 7) (nI (14 * bl)) (nI u) (nI i) kc ks sl it (nI b) (nI n) (nI c) st pr rf lt li lk lv so fu 0 0 := by
  obtain ⟨J, hi, hb, hfin, hN, hC, hcs, hk, hO, hsn, hvl, hrec, hemp⟩ := h
  exact gl_649 J hLL hbl hi.1 hy1 hy (by omega) hN hC hk.1 hk.2 hu hO hsn hvl hrec (fun o sn vl a1 a2 a3 => k o sn vl ⟨J, hi, hb, hfin, hN, hC, hcs, ⟨hC.2.2.1, Nat.le_refl c⟩, a1, a2, a3, hrec, hemp⟩)
theorem gl_537 {w s : Nat} (hi : i < 32) (hs : s < 1024) (hw : w < 16) (k : ∃ fu, wL_law_649 post L xs J61 J123 hd (nI y) (nI nn) (o 0) (o 1) (o 2) (o 3) sn vl (nI bl) ((gp_a8 a i (s + 1024 * w)) 0) ((gp_a8 a i (s + 1024 * w)) 1) ((gp_a8 a i (s + 1024 * w)) 2) ((gp_a8 a i (s + 1024 * w)) 3) ((gp_a8 a i (s + 1024 * w)) 4) ((gp_a8 a i (s + 1024 * w)) 5) ((gp_a8 a i (s + 1024 * w)) 6) ((gp_a8 a i (s + 1024 * w)) 7) (nI (14 * bl)) (nI u) (nI i) kc ks sl it (nI b) (nI n) (nI c) st pr rf lt li lk lv so fu 0 0) : wL_law_537 post L xs J61 J123 hd (nI y) (nI nn) (o 0) (o 1) (o 2) (o 3) sn vl (nI bl) (a 0) (a 1) (a 2) (a 3) (a 4) (a 5) (a 6) (a 7) (nI (14 * bl)) (nI u) (nI i) (nI w) (nI s) kc ks sl it (nI b) (nI n) (nI c) st pr rf lt li lk lv so := by
  have hr : s + 1024 * w < 2 ^ 16 := by omega
  unfold wL_law_537
  refine nm_r (gl_rec hs hw) ?_
  exact gp_putL (m := 0) hi (by decide) hr (gp_putL (m := 1) hi (by decide) hr (gp_putL (m := 2) hi (by decide) hr (gp_putL (m := 3) hi (by decide) hr (gp_putL (m := 4) hi (by decide) hr (gp_putL (m := 5) hi (by decide) hr (gp_putL (m := 6) hi (by decide) hr (gp_putL (m := 7) hi (by decide) hr k)))))))
theorem gl_482n {x44 r : Int32} (hi : i < 32) (hr : r < 0) (k : ∃ fu, wL_law_649 post L xs J61 J123 hd (nI y) (nI nn) (o 0) (o 1) (o 2) (o 3) sn vl (nI bl) ((gp_a8 a i 1023) 0) ((gp_a8 a i 1023) 1) ((gp_a8 a i 1023) 2) ((gp_a8 a i 1023) 3) ((gp_a8 a i 1023) 4) ((gp_a8 a i 1023) 5) ((gp_a8 a i 1023) 6) ((gp_a8 a i 1023) 7) (nI (14 * bl)) (nI u) (nI i) kc ks sl it (nI b) (nI n) (nI c) st pr rf lt li lk lv so fu 0 0) : wL_law_482 post L xs J61 J123 hd (nI y) (nI nn) (o 0) (o 1) (o 2) (o 3) sn vl (nI bl) (a 0) (a 1) (a 2) (a 3) (a 4) (a 5) (a 6) (a 7) (nI (14 * bl)) (nI u) (nI i) x44 r kc ks sl it (nI b) (nI n) (nI c) st pr rf lt li lk lv so := by
  unfold wL_law_482
  refine nm_e (br_t hr ?_)
  unfold wL_law_507 wL_law_510
  exact br_f (Int32.not_le.mpr hr) (gl_537 (w := 0) (s := 1023) hi (by decide) (by decide) k)
theorem gl_sub1 {p r : Nat} (hr : r < 2 ^ 20) (h : p ≤ r) : nI p - nI r < 1 := by
  rw [Int32.lt_iff_toInt_lt, pk_sub_toInt (by omega) (by omega), show (1 : Int32).toInt = 1 from by decide]
  omega
theorem gl_482s {s wv : Nat} (hbl : bl < 4) (hi : i < 32) (hs : s < 1000) (hwv : wv = 0 ∨ (14 * bl < wv ∧ wv ≤ 14 * bl + 14)) (k : ∃ fu, wL_law_649 post L xs J61 J123 hd (nI y) (nI nn) (o 0) (o 1) (o 2) (o 3) sn vl (nI bl) ((gp_a8 a i (s + 1024 * (wv - 14 * bl))) 0) ((gp_a8 a i (s + 1024 * (wv - 14 * bl))) 1) ((gp_a8 a i (s + 1024 * (wv - 14 * bl))) 2) ((gp_a8 a i (s + 1024 * (wv - 14 * bl))) 3) ((gp_a8 a i (s + 1024 * (wv - 14 * bl))) 4) ((gp_a8 a i (s + 1024 * (wv - 14 * bl))) 5) ((gp_a8 a i (s + 1024 * (wv - 14 * bl))) 6) ((gp_a8 a i (s + 1024 * (wv - 14 * bl))) 7) (nI (14 * bl)) (nI u) (nI i) kc ks sl it (nI b) (nI n) (nI c) st pr rf lt li lk lv so fu 0 0) : wL_law_482 post L xs J61 J123 hd (nI y) (nI nn) (o 0) (o 1) (o 2) (o 3) sn vl (nI bl) (a 0) (a 1) (a 2) (a 3) (a 4) (a 5) (a 6) (a 7) (nI (14 * bl)) (nI u) (nI i) (nI wv) (nI s) kc ks sl it (nI b) (nI n) (nI c) st pr rf lt li lk lv so := by
  unfold wL_law_482
  have h0 : (0 : Int32) ≤ nI s := nI_pos' (by omega)
  by_cases hz : 14 * bl < wv
  · refine nm_r (pk_sub (by omega)) (br_f (nI_pos (by omega)) ?_)
    refine pk_lt (wv - 14 * bl) 1 (fun z => absurd z (by omega)) (fun _ => pk_le (wv - 14 * bl) 14 (fun _ => ?_) (fun z => absurd z (by omega)))
    unfold wL_law_510
    exact br_t h0 (pk_le s 1022 (fun _ => gl_537 hi (by omega) (by omega) k) (fun z => absurd z (by omega)))
  · have e0 : wv - 14 * bl = 0 := by omega
    rw [e0] at k
    refine nm_e (br_f (nI_pos (by omega)) (br_t (gl_sub1 (by omega) (by omega)) ?_))
    unfold wL_law_507 wL_law_510
    exact br_t h0 (pk_le s 1022 (fun _ => gl_537 (w := 0) hi (by omega) (by omega) k) (fun z => absurd z (by omega)))
theorem gl_384 {t wv p d itm am : Nat} (hB : gl_B L xs y bl i k0 b n c o a sn vl sl it st so pr rf lt li lk lv T X K A F q N cs) (hLL : L ≤ 260) (hbl : bl < 4) (hy1 : 1 ≤ y) (hy : y ≤ 4) (hu : u = k0 - cs bl) (hi : i < 32) (hp : p = gl_p L xs (32 * bl + i)) (hd' : d = gl_c L xs (32 * bl + i)) (ht : t = 14 * bl + gl_rel i d) (hit : itm = gl_item p d y) (ham : am = gl_am p d (32 * bl + i))
    (hwv : wv = 0 ∨ (wv = gs_wrt T (gs_lst (gs_Wr T X K st (nI itm)) n) ∧ wv ≠ t ∧ (1 ≤ wv ∧ wv ≤ b) ∧ gs_un (st wv) ∧ (p % 8 < 2 ∨ (4 ≤ p % 8 ∧ p % 8 < 6)))) (k : (∀ (n c : Nat) (o a : Nat → Int64) (sn vl : Int64) (st so : Nat → Int32) (pr rf : Nat → Int64) (lt li lk lv : Nat → Int32) (T : Nat → Nat) (X K A : Nat → Int32) (F : Nat → Nat → Prop) (q N : Nat → Nat), gl_B L xs y bl (i + 1) c b n c o a sn vl sl it st so pr rf lt li lk lv T X K A F q N cs → J123 (o 0) (o 1) (o 2) (o 3) sn vl (a 0) (a 1) (a 2) (a 3) (a 4) (a 5) (a 6) (a 7) (nI (c - cs bl)) (nI (i + 1)) sl it (nI b) (nI n) (nI c) st pr rf lt li lk lv so)) :
    wL_law_384 post L xs J61 J123 hd (nI y) (nI nn) (o 0) (o 1) (o 2) (o 3) sn vl (nI bl) (a 0) (a 1) (a 2) (a 3) (a 4) (a 5) (a 6) (a 7) (nI (14 * bl)) (nI u) (nI i) (nI d) (nI t) (nI itm) (nI am) (nI (p % 8)) (nI wv) (-1) kc ks sl it (nI b) (nI n) (nI c) st pr rf lt li lk lv so := by
  have J := hB.1
  have hb := hB.2.2.1
  have ham1 : am < 1000 := by rw [ham]; exact Nat.mod_lt _ (by decide)
  have hdl := gl_c_lt L xs (32 * bl + i)
  have htl : t < 1000 := by rw [ht]; unfold gl_rel; omega
  have hw2 : wv = 0 ∨ (14 * bl < wv ∧ wv ≤ 14 * bl + 14) := by
    rcases hwv with z | z
    · exact Or.inl z
    · refine Or.inr ⟨?_, by omega⟩
      apply Classical.byContradiction
      intro hn
      rcases hB.2.2.2.1 wv z.2.2.1.1 (by omega) with y | y
      · have := z.2.2.2.1
        rw [y] at this
        exact absurd this (by unfold gs_un; decide)
      · exact gp_un_5 z.2.2.2.1 y
  have no : ∀ (c' : Nat) (st' so' : Nat → Int32) (p' : Nat → Int64) (q' : Nat → Nat), gp_J b n c' st' so' p' rf T X K lt li lk lv A F q' → gp_st b st st' → c ≤ c' → (∀ k, k < c → q' k = q k) →
      ∃ fu, wL_law_649 post L xs J61 J123 hd (nI y) (nI nn) (o 0) (o 1) (o 2) (o 3) sn vl (nI bl) ((gp_a8 a i 1023) 0) ((gp_a8 a i 1023) 1) ((gp_a8 a i 1023) 2) ((gp_a8 a i 1023) 3) ((gp_a8 a i 1023) 4) ((gp_a8 a i 1023) 5) ((gp_a8 a i 1023) 6) ((gp_a8 a i 1023) 7) (nI (14 * bl)) (nI u) (nI i) kc ks sl it (nI b) (nI n) (nI c') st' p' rf lt li lk lv so' fu 0 0 := by
    intro c' st' so' p' q' g1 g2 g3 g4
    exact gl_chk (gl_B_no (gl_B_call hB g1 g2 g3 g4) hi) hLL hbl hy1 hy hu (fun o sn vl hB' => k _ _ _ _ _ _ _ _ _ _ _ _ _ _ _ _ _ _ _ _ _ hB')
  have cm : wL_law_474 post L xs J61 J123 hd (nI y) (nI nn) (o 0) (o 1) (o 2) (o 3) sn vl (nI bl) (a 0) (a 1) (a 2) (a 3) (a 4) (a 5) (a 6) (a 7) (nI (14 * bl)) (nI u) (nI i) (nI t) (nI wv) (-1) kc ks sl it (nI b) (nI n) (nI c) st pr rf lt li lk lv so := by
    unfold wL_law_474
    exact gx_commit J (fun r c' st' so' q' g1 g2 g3 g4 _ => gl_482n hi (by decide) (no c' st' so' pr q' g1 g2 g3 g4))
  have tj : ∀ j, j ≤ b → nI t = nI j → j = t := fun j hj ej => ((nI_eq (by omega) (by omega)).mp ej).symm
  have hr : ∀ (kd : Int32) (F' : Nat → Nat → Prop), (∀ t w, F t w → F' t w) → (gp_cd st kd t (gs_wrt T (gs_lst (gs_Wr T X K st (nI itm)) n)) → F' t (gs_wrt T (gs_lst (gs_Wr T X K st (nI itm)) n))) → ¬ kd &&& 1 = 0 → wv - 14 * bl ≠ 0 → F' (14 * bl + gl_rel i (gl_c L xs (32 * bl + i))) (14 * bl + (wv - 14 * bl)) := by
    intro kd F' _ hF' hkd hne
    have hw3 := hw2.resolve_left (by omega)
    have z := hwv.resolve_left (by omega)
    rw [← hd', ← ht, show 14 * bl + (wv - 14 * bl) = wv by omega, z.1]
    rw [z.1] at z
    exact hF' ⟨hkd, by omega, z.2.1, z.2.2.2.1⟩
  unfold wL_law_384
  refine pk_le 2 (p % 8) (fun p2 => pk_le 4 (p % 8) (fun p4 => pk_le 6 (p % 8) (fun p6 => ?_) (fun p6 => ?_)) (fun p4 => ?_)) (fun p2 => ?_)
  · refine pk_eq (p % 8) 7 (fun _ => br_c (fun _ => cm) (fun _ => ?_)) (fun _ => cm)
    exact gx_abort J (fun r c' st' so' p' q' g1 g2 g3 g4 => gl_482n hi (by decide) (no c' st' so' p' q' g1 g2 g3 g4))
  · refine gx_add ham1 J (fun r c' st' so' p' q' hr0 g1 g2 g3 g4 => gl_482n hi hr0 (no c' st' so' p' q' g1 g2 g3 g4)) (fun j p' r' j1 j2 ej hs hn z z1 g => ?_)
    obtain rfl := tj j j2 ej
    refine gl_482s hbl hi z1 hw2 (gl_chk (gl_B_op hB hi hs z1 (by omega) g (fun _ _ f => Or.inl f) ?_ (hr 3 _ (fun _ _ f => Or.inl f) (fun cd => Or.inr ⟨cd, rfl, rfl⟩) (by decide))) hLL hbl hy1 hy hu (fun o sn vl hB' => k _ _ _ _ _ _ _ _ _ _ _ _ _ _ _ _ _ _ _ _ _ hB'))
    unfold gl_En
    rw [gs_apN_s, pk_us, pk_us, pk_us, pk_us, ← hp, ← hd']
    exact ⟨ht, by rw [hit], z1, Or.inr (Or.inr ⟨by omega, rfl, by rw [ham], rfl⟩)⟩
  · have w0 : wv = 0 := by
      rcases hwv with z | z
      · exact z
      · have := z.2.2.2.2
        omega
    subst w0
    refine gx_write ham1 J (fun r c' st' so' p' q' hr0 g1 g2 g3 g4 => gl_482n hi hr0 (no c' st' so' p' q' g1 g2 g3 g4)) (fun j p' r' j1 j2 ej hs hn g => ?_)
    obtain rfl := tj j j2 ej
    refine gl_482s (s := 0) hbl hi (by decide) hw2 (gl_chk (gl_B_op hB hi hs (by decide) (by omega) g (fun _ _ f => Or.inl f) ?_ (fun z => absurd (Nat.zero_sub _) z)) hLL hbl hy1 hy hu (fun o sn vl hB' => k _ _ _ _ _ _ _ _ _ _ _ _ _ _ _ _ _ _ _ _ _ hB'))
    unfold gl_En
    rw [gs_apN_s, pk_us, pk_us, pk_us, pk_us, ← hp, ← hd']
    exact ⟨ht, by rw [hit], by decide, Or.inr (Or.inl ⟨by omega, rfl, by rw [ham]⟩)⟩
  · refine gx_read J (fun r c' st' so' p' q' hr0 g1 g2 g3 g4 => gl_482n hi hr0 (no c' st' so' p' q' g1 g2 g3 g4)) (fun j p' r' j1 j2 ej hs hn z z1 _ g => ?_)
    obtain rfl := tj j j2 ej
    refine gl_482s hbl hi z1 hw2 (gl_chk (gl_B_op hB hi hs z1 (by omega) g (fun _ _ f => Or.inl f) ?_ (hr 1 _ (fun _ _ f => Or.inl f) (fun cd => Or.inr ⟨cd, rfl, rfl⟩) (by decide))) hLL hbl hy1 hy hu (fun o sn vl hB' => k _ _ _ _ _ _ _ _ _ _ _ _ _ _ _ _ _ _ _ _ _ hB'))
    unfold gl_En
    rw [gs_apN_s, pk_us, pk_us, pk_us, pk_us, ← hp, ← hd']
    exact ⟨ht, by rw [hit], z1, Or.inl ⟨by omega, rfl, rfl⟩⟩
end
