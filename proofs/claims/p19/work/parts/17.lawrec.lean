/-! the recorded order -/
def gl_C (bl c : Nat) (cs q : Nat → Nat) : Prop :=
  cs 0 = 0 ∧ (∀ e, e < bl → cs e ≤ cs (e + 1) ∧ cs (e + 1) ≤ cs e + 14 ∧ ∀ k, cs e ≤ k → k < cs (e + 1) → 14 * e < q k ∧ q k ≤ 14 * e + 14) ∧ cs bl ≤ c ∧ c ≤ cs bl + 14 ∧ (∀ k, cs bl ≤ k → k < c → 14 * bl < q k ∧ q k ≤ 14 * bl + 14)
def gl_m (bl kk : Nat) (cs : Nat → Nat) (e : Nat) : Nat := if e < bl then cs (e + 1) - cs e else if e = bl then kk - cs bl else 0
theorem gl_m_l {bl kk e : Nat} {cs : Nat → Nat} (h : e < bl) : gl_m bl kk cs e = cs (e + 1) - cs e := if_pos h
theorem gl_m_e {bl kk : Nat} {cs : Nat → Nat} : gl_m bl kk cs bl = kk - cs bl := by
  unfold gl_m
  rw [if_neg (by omega), if_pos rfl]
theorem gl_m_n {bl kk kk' e : Nat} {cs : Nat → Nat} (h : e ≠ bl) : gl_m bl kk cs e = gl_m bl kk' cs e := by
  unfold gl_m
  rw [if_neg h, if_neg h]
def gl_O (bl kk : Nat) (cs q : Nat → Nat) (o : Nat → Int64) : Prop := ∀ e, e < 4 → o e = lN (gp_nb (fun k => q k - 14 * e) (cs e) (gl_m bl kk cs e))
theorem gl_C_mono {bl c : Nat} {cs q : Nat → Nat} (hC : gl_C bl c cs q) (e : Nat) (he : e ≤ bl) : cs e ≤ cs bl := by
  have h : ∀ d e, e + d = bl → cs e ≤ cs bl := by
    intro d
    induction d with
    | zero => intro e he; rw [show e = bl by omega]; exact Nat.le_refl _
    | succ d ih =>
      intro e he
      exact Nat.le_trans (hC.2.1 e (by omega)).1 (ih (e + 1) (by omega))
  exact h (bl - e) e (by omega)
section
variable {post : Int32 → Prop} {L : Nat} {xs : Nat → Int32} {J61 : Int64 → Int64 → Int64 → Int64 → Int64 → Int64 → Int32 → Int32 → Int32 → Int32 → Int32 → Int32 → (Nat → Int32) → (Nat → Int64) → (Nat → Int64) → (Nat → Int32) → (Nat → Int32) → (Nat → Int32) → (Nat → Int32) → (Nat → Int32) → Prop} {J123 : Int64 → Int64 → Int64 → Int64 → Int64 → Int64 → Int64 → Int64 → Int64 → Int64 → Int64 → Int64 → Int64 → Int64 → Int32 → Int32 → Int32 → Int32 → Int32 → Int32 → Int32 → (Nat → Int32) → (Nat → Int64) → (Nat → Int64) → (Nat → Int32) → (Nat → Int32) → (Nat → Int32) → (Nat → Int32) → (Nat → Int32) → Prop} {hd : Int32} {y nn bl u i kc ks : Nat} {o a : Nat → Int64} {sn vl : Int64} {sl it : Int32} {b n c : Nat} {st : Nat → Int32} {pr rf : Nat → Int64} {lt li lk lv so : Nat → Int32} {T : Nat → Nat} {X K A : Nat → Int32} {F : Nat → Nat → Prop} {q : Nat → Nat} {N cs : Nat → Nat}
theorem gl_745 {k0 : Nat} (h : gp_J b n c st so pr rf T X K lt li lk lv A F q) (hLL : L ≤ 260) (hbl : bl < 4) (hi : it = nI y) (hy1 : 1 ≤ y) (hy : y ≤ 4) (hb56 : b ≤ 56) (hN : gl_N L xs y bl n N T X K A lv a) (hC : gl_C bl c cs q) (hk0 : cs bl ≤ k0) (hk1 : k0 ≤ c)
    (hO : gl_O bl k0 cs q o) (hsn : ∀ t, 1 ≤ t → t ≤ 62 → (gs_m sn (t + 1) ↔ ∃ m, m < k0 ∧ q m = t)) (hvl : ∀ x, x < y → nI (gp_fd vl (10 * x) 10) = gp_sv q k0 n T X K lv (nI x))
    (hrec : ∀ j, j < 32 → gp_w8 a j / 1024 ≠ 0 → F (14 * bl + gl_rel j (gl_c L xs (32 * bl + j))) (14 * bl + gp_w8 a j / 1024))
    (k : ∀ o sn vl, gl_O bl c cs q o → (∀ t, 1 ≤ t → t ≤ 62 → (gs_m sn (t + 1) ↔ ∃ m, m < c ∧ q m = t)) → (∀ x, x < y → nI (gp_fd vl (10 * x) 10) = gp_sv q c n T X K lv (nI x)) → J123 (o 0) (o 1) (o 2) (o 3) sn vl (a 0) (a 1) (a 2) (a 3) (a 4) (a 5) (a 6) (a 7) (nI (c - cs bl)) (nI (i + 1)) sl it (nI b) (nI n) (nI c) st pr rf lt li lk lv so) :
    ∃ fu, wL_law_745 post L xs J61 J123 hd (nI y) (nI nn) (nI bl) (a 0) (a 1) (a 2) (a 3) (a 4) (a 5) (a 6) (a 7) (nI (14 * bl)) (nI i) kc ks sl it (nI b) (nI n) (nI c) st pr rf lt li lk lv so fu (o 0) (o 1) (o 2) (o 3) sn vl (nI (k0 - cs bl)) (nI k0) 0 := by
  have hQ := h.2.2.2.2.2.2.2.2.1
  have hc64 := h.1.2.2
  have key : ∃ fu, wL_law_745 post L xs J61 J123 hd (nI y) (nI nn) (nI bl) (a 0) (a 1) (a 2) (a 3) (a 4) (a 5) (a 6) (a 7) (nI (14 * bl)) (nI i) kc ks sl it (nI b) (nI n) (nI c) st pr rf lt li lk lv so fu (o 0) (o 1) (o 2) (o 3) sn vl (nI (k0 - cs bl)) (nI k0) (nI (k0 - k0)) := by
    refine pk_loop (σ := (Nat → Int64) × Int64 × Int64) (fun m kk s => wL_law_745 post L xs J61 J123 hd (nI y) (nI nn) (nI bl) (a 0) (a 1) (a 2) (a 3) (a 4) (a 5) (a 6) (a 7) (nI (14 * bl)) (nI i) kc ks sl it (nI b) (nI n) (nI c) st pr rf lt li lk lv so m (s.1 0) (s.1 1) (s.1 2) (s.1 3) s.2.1 s.2.2 (nI (kk - cs bl)) (nI kk) (nI (kk - k0)))
      (fun kk s => k0 ≤ kk ∧ gl_O bl kk cs q s.1 ∧ (∀ t, 1 ≤ t → t ≤ 62 → (gs_m s.2.1 (t + 1) ↔ ∃ m, m < kk ∧ q m = t)) ∧ (∀ x, x < y → nI (gp_fd s.2.2 (10 * x) 10) = gp_sv q kk n T X K lv (nI x))) c k0 (o, sn, vl) hk1 ⟨Nat.le_refl k0, hO, hsn, hvl⟩ ?_ ?_
    · rintro m ⟨o, sn, vl⟩ ⟨_, gO, gs, gv⟩
      dsimp only at gO gs gv ⊢
      have gs' : ∀ t, 1 ≤ t → t ≤ b → (gs_m sn (t + 1) ↔ st t = 4) := by
        intro t t1 t2
        rw [gs t t1 (by omega)]
        constructor
        · rintro ⟨m, hm, rfl⟩
          exact (hQ.2.1 m hm).2.2
        · exact hQ.2.2.2.1 t t1 t2
      refine pk_le 15 (c - k0) (fun z => absurd z (by have := hC.2.2.2.1; omega)) (fun _ => ?_)
      exact gx_settledAt hc64 (by omega) (fun z => absurd z (by omega)) (fun _ => br_t rfl (gl_1111 h hLL hbl hi hy hb56 gs' gv hrec (k o sn vl gO gs gv)))
    · rintro m kk ⟨o, sn, vl⟩ hkk ⟨gk, gO, gs, gv⟩ k'
      dsimp only at gO gs gv k' ⊢
      have hso := hQ.2.1 kk hkk
      have hr := hC.2.2.2.2 kk (by omega) hkk
      have h14 := hC.2.2.2.1
      obtain ⟨sr, hsr⟩ : ∃ sr, sr = q kk - 14 * bl := ⟨_, rfl⟩
      refine pk_le 15 (kk - k0) (fun z => absurd z (by omega)) (fun _ => ?_)
      refine gx_settledAt hc64 (by omega) (fun _ => ?_) (fun z => absurd z (by omega))
      rw [hso.1]
      refine br_f (nI_ne0 (by omega) (by omega)) (gx_settledAt hc64 (by omega) (fun _ => ?_) (fun z => absurd z (by omega)))
      rw [hso.1]
      refine nm_r (e' := nI sr) (by rw [hsr]; exact pk_sub (by omega)) ?_
      refine pk_lt sr 1 (fun z => absurd z (by omega)) (fun _ => pk_lt 14 sr (fun z => absurd z (by omega)) (fun _ => ?_))
      rw [gp_bit (show q kk < 64 by omega)]
      refine br_t (fun z => ?_) ?_
      · obtain ⟨m', hm', em⟩ := (gs (q kk) hso.2.1.1 (by omega)).mp z
        have := hQ.2.2.1 m' kk (by omega) hkk em
        omega
      · have eb : (nI sr).toInt64 <<< ((4 * nI (kk - cs bl)).toInt64 &&& 63) = lN (sr * 2 ^ (4 * (kk - cs bl))) := by
          have e4 : (4 : Int32) * nI (kk - cs bl) = nI (4 * (kk - cs bl)) := pk_mul 4 _
          rw [e4, nI_l (show sr < 2 ^ 31 by omega), wb_shl _ (show 4 * (kk - cs bl) < 64 by omega)]
        have eu : nI (kk - cs bl) + 1 = nI (kk + 1 - cs bl) := by rw [nI_1, show kk - cs bl + 1 = kk + 1 - cs bl by omega]
        refine nm_e (nm_r eb (nm_r eu ?_))
        obtain ⟨o', ho'⟩ : ∃ o' : Nat → Int64, o' = fun e => if e = bl then o e ||| lN (sr * 2 ^ (4 * (kk - cs bl))) else o e := ⟨_, rfl⟩
        have o1 : ∀ e, e = bl → o e ||| lN (sr * 2 ^ (4 * (kk - cs bl))) = o' e := fun e he => by rw [ho']; exact (if_pos he).symm
        have o0 : ∀ e, e ≠ bl → o' e = o e := fun e he => by rw [ho']; exact if_neg he
        have gO' : gl_O bl (kk + 1) cs q o' := by
          intro e he
          by_cases eb : e = bl
          · subst eb
            rw [← o1 e rfl, gO e he, gl_m_e, gl_m_e, show kk + 1 - cs e = kk - cs e + 1 by omega, gp_nb_s]
            have ef : q (cs e + (kk - cs e)) - 14 * e = sr := by rw [show cs e + (kk - cs e) = kk by omega, hsr]
            have hlt := gp_nb_lt (f := fun k => q k - 14 * e) (m := kk - cs e) (cs e) (fun j j1 j2 => by have := hC.2.2.2.2 j j1 (by omega); show q j - 14 * e < 16; omega)
            have hlt2 := gp_nb_lt (f := fun k => q k - 14 * e) (m := kk - cs e + 1) (cs e) (fun j j1 j2 => by have := hC.2.2.2.2 j j1 (by omega); show q j - 14 * e < 16; omega)
            rw [gp_nb_s] at hlt2
            rw [ef] at hlt2 ⊢
            have hpw : 2 ^ (4 * (kk - cs e + 1)) ≤ 2 ^ 60 := Nat.pow_le_pow_right (by decide) (by omega)
            exact g_or' rfl hlt (by omega)
          · rw [o0 e eb, gl_m_n eb (kk' := kk)]
            exact gO e he
        have key : ∃ fu, wL_law_884 post L xs J61 J123 (wL_law_745 post L xs J61 J123 hd (nI y) (nI nn) (nI bl) (a 0) (a 1) (a 2) (a 3) (a 4) (a 5) (a 6) (a 7) (nI (14 * bl)) (nI i) kc ks sl it (nI b) (nI n) (nI c) st pr rf lt li lk lv so m) hd (nI y) (nI nn) (o' 0) (o' 1) (o' 2) (o' 3) (sn ||| ((1 : Int64) <<< ((nI (q kk)).toInt64 &&& 63))) (nI bl) (a 0) (a 1) (a 2) (a 3) (a 4) (a 5) (a 6) (a 7) (nI (14 * bl)) (nI (kk + 1 - cs bl)) (nI i) (nI kk) (nI (kk - k0)) (nI sr) kc ks sl it (nI b) (nI n) (nI c) st pr rf lt li lk lv so fu vl 0 := by
          refine gl_884 h hLL hbl hy1 hy hN hkk (by omega) (by omega) (by omega) gv (fun w hw => ?_)
          rw [show kk - k0 + 1 = kk + 1 - k0 by omega]
          refine k' (o', sn ||| ((1 : Int64) <<< ((nI (q kk)).toInt64 &&& 63)), w) ⟨by omega, gO', fun t t1 t2 => ?_, hw⟩
          rw [gp_bitS (show q kk < 64 by omega), gs t t1 t2]
          constructor
          · rintro (⟨m', hm', em⟩ | e)
            · exact ⟨m', by omega, em⟩
            · exact ⟨kk, by omega, by omega⟩
          · rintro ⟨m', hm', em⟩
            by_cases e : m' = kk
            · subst e
              exact Or.inr (by omega)
            · exact Or.inl ⟨m', by omega, em⟩
        refine pk_eq bl 0 (fun e => nm_r (o1 0 e.symm) ?_) (fun n0 => pk_eq bl 1 (fun e => nm_r (o1 1 e.symm) ?_) (fun n1 => pk_eq bl 2 (fun e => nm_r (o1 2 e.symm) ?_) (fun n2 => nm_r (o1 3 (by omega)) ?_)))
        · rw [o0 1 (by omega), o0 2 (by omega), o0 3 (by omega)] at key
          exact key
        · rw [o0 0 (by omega), o0 2 (by omega), o0 3 (by omega)] at key
          exact key
        · rw [o0 0 (by omega), o0 1 (by omega), o0 3 (by omega)] at key
          exact key
        · rw [o0 0 (by omega), o0 1 (by omega), o0 2 (by omega)] at key
          exact key
  rw [Nat.sub_self] at key
  exact key
theorem gl_692 {J649 : Int32 → Int32 → Prop} {e M k1 : Nat} {f : Nat → Nat} (h : gp_J b n c st so pr rf T X K lt li lk lv A F q) (he : e < 4) (hM : M ≤ 14) (hk : k1 + M ≤ c) (hf : ∀ k, k1 ≤ k → k < k1 + M → q k = 14 * e + f k ∧ 1 ≤ f k ∧ f k ≤ 14) (k : J649 (nI (k1 + M)) (nI (e + 1))) :
    ∃ fu, wL_law_692 post L xs J61 J123 J649 hd (nI y) (nI nn) (o 0) (o 1) (o 2) (o 3) sn vl (nI bl) (a 0) (a 1) (a 2) (a 3) (a 4) (a 5) (a 6) (a 7) (nI (14 * bl)) (nI u) (nI i) (nI e) kc ks sl it (nI b) (nI n) (nI c) st pr rf lt li lk lv so fu (nI k1) (lN (gp_nb f k1 M)) := by
  have hQ := h.2.2.2.2.2.2.2.2.1
  have hc64 := h.1.2.2
  refine pk_loop (σ := Unit) (fun m j _ => wL_law_692 post L xs J61 J123 J649 hd (nI y) (nI nn) (o 0) (o 1) (o 2) (o 3) sn vl (nI bl) (a 0) (a 1) (a 2) (a 3) (a 4) (a 5) (a 6) (a 7) (nI (14 * bl)) (nI u) (nI i) (nI e) kc ks sl it (nI b) (nI n) (nI c) st pr rf lt li lk lv so m (nI (k1 + j)) (lN (gp_nb f (k1 + j) (M - j)))) (fun _ _ => True) M 0 () (Nat.zero_le M) trivial ?_ ?_
  · intro m _ _
    rw [Nat.sub_self]
    exact br_t rfl (nm_r (nI_1 e) k)
  · intro m j _ hj _ k'
    have fk := hf (k1 + j) (by omega) (by omega)
    have hlt := gp_nb_lt (f := f) (m := M - j) (k1 + j) (fun j' j1 j2 => by have := hf j' (by omega) (by omega); omega)
    have hpw : 2 ^ (4 * (M - j)) ≤ 2 ^ 56 := Nat.pow_le_pow_right (by decide) (by omega)
    have en : gp_nb f (k1 + j) (M - j) = f (k1 + j) + 16 * gp_nb f (k1 + (j + 1)) (M - (j + 1)) := by
      rw [show M - j = M - (j + 1) + 1 by omega]
      rfl
    refine br_f (fun z => ?_) ?_
    · have := (pk_lEQ (b := 0) (by omega) (by omega)).mp z
      omega
    · have nx := k' () trivial
      refine gx_settledAt hc64 (by omega) (fun _ => ?_) (fun z => absurd z (by omega))
      rw [(hQ.2.1 (k1 + j) (by omega)).1]
      have e15 : lN (gp_nb f (k1 + j) (M - j)) &&& 15 = lN (f (k1 + j)) := by
        have e1 := wb_mask (n := gp_nb f (k1 + j) (M - j)) (k := 4) (by omega) (by omega)
        have e2 : gp_nb f (k1 + j) (M - j) % 2 ^ 4 = f (k1 + j) := by rw [en]; omega
        rw [e2] at e1
        exact e1
      have e14 : (14 : Int32) * nI e = nI (14 * e) := pk_mul 14 e
      have es : ((lN (gp_nb f (k1 + j) (M - j))).toUInt64 >>> ((4 : Int32).toInt64.toUInt64 &&& Int64.toUInt64 63)).toInt64 = lN (gp_nb f (k1 + (j + 1)) (M - (j + 1))) := by
        have e1 := wb_shr (n := gp_nb f (k1 + j) (M - j)) (k := 4) (by omega) (by omega)
        have e2 : gp_nb f (k1 + j) (M - j) / 2 ^ 4 = gp_nb f (k1 + (j + 1)) (M - (j + 1)) := by rw [en]; omega
        rw [e2] at e1
        exact e1
      rw [e15, lN_i, e14, nI_add]
      refine br_t (by rw [fk.1]) (nm_r es (nm_r (nI_1 (k1 + j)) nx))
theorem gl_649 {k0 : Nat} (h : gp_J b n c st so pr rf T X K lt li lk lv A F q) (hLL : L ≤ 260) (hbl : bl < 4) (hi : it = nI y) (hy1 : 1 ≤ y) (hy : y ≤ 4) (hb56 : b ≤ 56) (hN : gl_N L xs y bl n N T X K A lv a) (hC : gl_C bl c cs q) (hk0 : cs bl ≤ k0) (hk1 : k0 ≤ c) (hu : u = k0 - cs bl)
    (hO : gl_O bl k0 cs q o) (hsn : ∀ t, 1 ≤ t → t ≤ 62 → (gs_m sn (t + 1) ↔ ∃ m, m < k0 ∧ q m = t)) (hvl : ∀ x, x < y → nI (gp_fd vl (10 * x) 10) = gp_sv q k0 n T X K lv (nI x))
    (hrec : ∀ j, j < 32 → gp_w8 a j / 1024 ≠ 0 → F (14 * bl + gl_rel j (gl_c L xs (32 * bl + j))) (14 * bl + gp_w8 a j / 1024))
    (k : ∀ o sn vl, gl_O bl c cs q o → (∀ t, 1 ≤ t → t ≤ 62 → (gs_m sn (t + 1) ↔ ∃ m, m < c ∧ q m = t)) → (∀ x, x < y → nI (gp_fd vl (10 * x) 10) = gp_sv q c n T X K lv (nI x)) → J123 (o 0) (o 1) (o 2) (o 3) sn vl (a 0) (a 1) (a 2) (a 3) (a 4) (a 5) (a 6) (a 7) (nI (c - cs bl)) (nI (i + 1)) sl it (nI b) (nI n) (nI c) st pr rf lt li lk lv so) :
    ∃ fu, wL_law_649 post L xs J61 J123 hd (nI y) (nI nn) (o 0) (o 1) (o 2) (o 3) sn vl (nI bl) (a 0) (a 1) (a 2) (a 3) (a 4) (a 5) (a 6) (a 7) (nI (14 * bl)) (nI u) (nI i) kc ks sl it (nI b) (nI n) (nI c) st pr rf lt li lk lv so fu 0 0 := by
  have key : ∃ fu, wL_law_649 post L xs J61 J123 hd (nI y) (nI nn) (o 0) (o 1) (o 2) (o 3) sn vl (nI bl) (a 0) (a 1) (a 2) (a 3) (a 4) (a 5) (a 6) (a 7) (nI (14 * bl)) (nI u) (nI i) kc ks sl it (nI b) (nI n) (nI c) st pr rf lt li lk lv so fu (nI (if 0 ≤ bl then cs 0 else k0)) (nI 0) := by
    refine pk_loop (σ := Unit) (fun m e _ => wL_law_649 post L xs J61 J123 hd (nI y) (nI nn) (o 0) (o 1) (o 2) (o 3) sn vl (nI bl) (a 0) (a 1) (a 2) (a 3) (a 4) (a 5) (a 6) (a 7) (nI (14 * bl)) (nI u) (nI i) kc ks sl it (nI b) (nI n) (nI c) st pr rf lt li lk lv so m (nI (if e ≤ bl then cs e else k0)) (nI e)) (fun _ _ => True) (bl + 1) 0 () (Nat.zero_le _) trivial ?_ ?_
    · intro m _ _
      refine pk_lt bl (bl + 1) (fun _ => ?_) (fun z => absurd z (by omega))
      rw [if_neg (show ¬ bl + 1 ≤ bl by omega), hu]
      exact gl_745 h hLL hbl hi hy1 hy hb56 hN hC hk0 hk1 hO hsn hvl hrec k
    · intro m e _ he _ k'
      have nx := k' () trivial
      have mono := gl_C_mono hC
      have key : ∃ fu, wL_law_692 post L xs J61 J123 (wL_law_649 post L xs J61 J123 hd (nI y) (nI nn) (o 0) (o 1) (o 2) (o 3) sn vl (nI bl) (a 0) (a 1) (a 2) (a 3) (a 4) (a 5) (a 6) (a 7) (nI (14 * bl)) (nI u) (nI i) kc ks sl it (nI b) (nI n) (nI c) st pr rf lt li lk lv so m) hd (nI y) (nI nn) (o 0) (o 1) (o 2) (o 3) sn vl (nI bl) (a 0) (a 1) (a 2) (a 3) (a 4) (a 5) (a 6) (a 7) (nI (14 * bl)) (nI u) (nI i) (nI e) kc ks sl it (nI b) (nI n) (nI c) st pr rf lt li lk lv so fu (nI (cs e)) (o e) := by
        rw [hO e (by omega)]
        by_cases eb : e = bl
        · subst eb
          rw [if_neg (by omega)] at nx
          rw [gl_m_e]
          refine gl_692 h (by omega) (by have := hC.2.2.2.1; omega) (by omega) (fun k z1 z2 => ?_) (by rw [show cs e + (k0 - cs e) = k0 by omega]; exact nx)
          have := hC.2.2.2.2 k z1 (by omega)
          exact ⟨by show q k = 14 * e + (q k - 14 * e); omega, by show 1 ≤ q k - 14 * e; omega, by show q k - 14 * e ≤ 14; omega⟩
        · have ce := hC.2.1 e (by omega)
          have m1 := mono (e + 1) (by omega)
          rw [if_pos (by omega)] at nx
          rw [gl_m_l (by omega)]
          refine gl_692 h (by omega) (by omega) (by have := hC.2.2.1; omega) (fun k z1 z2 => ?_) (by rw [show cs e + (cs (e + 1) - cs e) = cs (e + 1) by omega]; exact nx)
          have := ce.2.2 k z1 (by omega)
          exact ⟨by show q k = 14 * e + (q k - 14 * e); omega, by show 1 ≤ q k - 14 * e; omega, by show q k - 14 * e ≤ 14; omega⟩
      refine pk_lt bl e (fun z => absurd z (by omega)) (fun _ => ?_)
      rw [if_pos (show e ≤ bl by omega)]
      refine pk_eq e 0 (fun e0 => ?_) (fun n0 => pk_eq e 1 (fun e0 => ?_) (fun n1 => pk_eq e 2 (fun e0 => ?_) (fun n2 => ?_)))
      · rw [show o e = o 0 by rw [e0]] at key
        exact key
      · rw [show o e = o 1 by rw [e0]] at key
        exact key
      · rw [show o e = o 2 by rw [e0]] at key
        exact key
      · rw [show o e = o 3 by rw [show e = 3 by omega]] at key
        exact key
  rw [if_pos (Nat.zero_le bl), hC.1] at key
  exact key
end
