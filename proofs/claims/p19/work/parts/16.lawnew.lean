/-! the newly settled: recording and replay -/
/-- what step j of block bl entered as entry e, its answer being s -/
def gl_En (L : Nat) (xs : Nat → Int32) (y bl j e s : Nat) (T : Nat → Nat) (X K A lv : Nat → Int32) : Prop :=
  T e = 14 * bl + gl_rel j (gl_c L xs (32 * bl + j)) ∧ X e = nI (gl_item (gl_p L xs (32 * bl + j)) (gl_c L xs (32 * bl + j)) y) ∧ s < 1000 ∧
    ((gl_p L xs (32 * bl + j) % 8 / 2 = 0 ∧ K e = 1 ∧ lv e = nI s) ∨ (gl_p L xs (32 * bl + j) % 8 / 2 = 1 ∧ K e = 2 ∧ A e = nI (gl_am (gl_p L xs (32 * bl + j)) (gl_c L xs (32 * bl + j)) (32 * bl + j))) ∨
      (gl_p L xs (32 * bl + j) % 8 / 2 = 2 ∧ K e = 3 ∧ A e = nI (gl_am (gl_p L xs (32 * bl + j)) (gl_c L xs (32 * bl + j)) (32 * bl + j)) ∧ lv e = nI s))
/-- the steps of block bl and the log: N j entries ahead of step j -/
def gl_N (L : Nat) (xs : Nat → Int32) (y bl n : Nat) (N T : Nat → Nat) (X K A lv : Nat → Int32) (a : Nat → Int64) : Prop :=
  N 32 = n ∧ (∀ e, e < N 0 → T e ≤ 14 * bl) ∧ (∀ j, j ≤ 32 → N j ≤ n) ∧ ∀ j, j < 32 → (gp_w8 a j % 1024 = 1023 ∧ N (j + 1) = N j) ∨ (N (j + 1) = N j + 1 ∧ gl_En L xs y bl j (N j) (gp_w8 a j % 1024) T X K A lv)
theorem gl_k7 {p : Nat} (hp : p < 65536) : (nI p &&& 7) >>> ((1 : Int32) &&& 31) = nI (p % 8 / 2) := by
  rw [pk_andN (by omega) 3 (by decide)]
  exact pk_shrN (by omega) _ 1 (by decide)
section
variable {post : Int32 → Prop} {L : Nat} {xs : Nat → Int32} {J61 : Int64 → Int64 → Int64 → Int64 → Int64 → Int64 → Int32 → Int32 → Int32 → Int32 → Int32 → Int32 → (Nat → Int32) → (Nat → Int64) → (Nat → Int64) → (Nat → Int32) → (Nat → Int32) → (Nat → Int32) → (Nat → Int32) → (Nat → Int32) → Prop} {J123 : Int64 → Int64 → Int64 → Int64 → Int64 → Int64 → Int64 → Int64 → Int64 → Int64 → Int64 → Int64 → Int64 → Int64 → Int32 → Int32 → Int32 → Int32 → Int32 → Int32 → Int32 → (Nat → Int32) → (Nat → Int64) → (Nat → Int64) → (Nat → Int32) → (Nat → Int32) → (Nat → Int32) → (Nat → Int32) → (Nat → Int32) → Prop} {hd : Int32} {y nn bl u i kc ks : Nat} {o a : Nat → Int64} {sn vl : Int64} {sl it : Int32} {b n c : Nat} {st : Nat → Int32} {pr rf : Nat → Int64} {lt li lk lv so : Nat → Int32} {T : Nat → Nat} {X K A : Nat → Int32} {F : Nat → Nat → Prop} {q : Nat → Nat} {N : Nat → Nat}
/-- one entry replayed: field x of the values becomes v -/
theorem gl_rp {kk e itm v : Nat} {w : Int64} (hy : y ≤ 4) (hT : T e = q kk) (hX : X e = nI itm) (him : itm < y) (hv : v < 1024)
    (hw : ∀ x, x < y → nI (gp_fd w (10 * x) 10) = gs_val (gp_sv q kk n T X K lv (nI x)) lv (gs_lst (gs_Wt T X K (q kk) (nI x)) e))
    (hk : (¬ K e &&& 2 = 0 ∧ lv e = nI v) ∨ (K e &&& 2 = 0 ∧ v = gp_fd w (10 * itm) 10)) :
    ∀ x, x < y → nI (gp_fd (gp_put w (10 * itm) 10 v) (10 * x) 10) = gs_val (gp_sv q kk n T X K lv (nI x)) lv (gs_lst (gs_Wt T X K (q kk) (nI x)) (e + 1)) := by
  intro x hx
  by_cases ex : x = itm
  · subst ex
    rw [gp_put_s (by omega) hv]
    rcases hk with ⟨a1, a2⟩ | ⟨a1, a2⟩
    · rw [gs_lst_t ⟨hT, hX, a1⟩]
      exact a2.symm
    · rw [gs_lst_f (fun z => z.2.2 a1), a2]
      exact hw x hx
  · rw [gp_put_o (by omega) hv (by omega), gs_lst_f (fun z => ?_)]
    · exact hw x hx
    · have := z.2.1
      rw [hX] at this
      exact ex ((nI_eq (by omega) (by omega)).mp this).symm
theorem gl_884 {J745 : Int64 → Int64 → Int64 → Int64 → Int64 → Int64 → Int32 → Int32 → Int32 → Prop} {kk qq sr : Nat} (h : gp_J b n c st so pr rf T X K lt li lk lv A F q) (hLL : L ≤ 260) (hbl : bl < 4) (hy1 : 1 ≤ y) (hy : y ≤ 4) (hN : gl_N L xs y bl n N T X K A lv a) (hkk : kk < c) (hq : q kk = 14 * bl + sr) (hsr : 1 ≤ sr) (hsr2 : sr ≤ 14)
    (hvl : ∀ x, x < y → nI (gp_fd vl (10 * x) 10) = gp_sv q kk n T X K lv (nI x))
    (k : ∀ w, (∀ x, x < y → nI (gp_fd w (10 * x) 10) = gp_sv q (kk + 1) n T X K lv (nI x)) → J745 (o 0) (o 1) (o 2) (o 3) sn w (nI u) (nI (kk + 1)) (nI (qq + 1))) :
    ∃ fu, wL_law_884 post L xs J61 J123 J745 hd (nI y) (nI nn) (o 0) (o 1) (o 2) (o 3) sn (nI bl) (a 0) (a 1) (a 2) (a 3) (a 4) (a 5) (a 6) (a 7) (nI (14 * bl)) (nI u) (nI i) (nI kk) (nI qq) (nI sr) kc ks sl it (nI b) (nI n) (nI c) st pr rf lt li lk lv so fu vl 0 := by
  obtain ⟨N32, N0, Nn, Ns⟩ := hN
  refine pk_loop (σ := Int64) (fun m j w => wL_law_884 post L xs J61 J123 J745 hd (nI y) (nI nn) (o 0) (o 1) (o 2) (o 3) sn (nI bl) (a 0) (a 1) (a 2) (a 3) (a 4) (a 5) (a 6) (a 7) (nI (14 * bl)) (nI u) (nI i) (nI kk) (nI qq) (nI sr) kc ks sl it (nI b) (nI n) (nI c) st pr rf lt li lk lv so m w (nI j))
    (fun j w => ∀ x, x < y → nI (gp_fd w (10 * x) 10) = gs_val (gp_sv q kk n T X K lv (nI x)) lv (gs_lst (gs_Wt T X K (q kk) (nI x)) (N j))) 32 0 vl (Nat.zero_le 32) ?_ ?_ ?_
  · intro x hx
    rw [gp_lst_n0 (fun e he z => ?_)]
    · exact hvl x hx
    · have := N0 e he
      have := z.1
      omega
  · intro m w hw
    refine pk_le 32 32 (fun _ => nm_r (nI_1 qq) (nm_r (nI_1 kk) (k w (fun x hx => ?_)))) (fun h => absurd h (by omega))
    rw [hw x hx, N32, gp_R2 h hkk]
  · intro m j w hj hw k'
    have hp := gl_p_lt L xs (32 * bl + j)
    have hdd := gl_c_lt L xs (32 * bl + j)
    have stp := Ns j hj
    refine pk_le 32 j (fun h => absurd h (by omega)) (fun _ => nm_r (gl_g bl j) ?_)
    rw [gl_j1]
    refine gl_cellW hLL (by omega) (nm_r (gl_p_e L xs (32 * bl + j)) ?_)
    rw [gl_j2]
    refine gl_cellW hLL (by omega) (nm_r (gl_c_e L xs (32 * bl + j)) ?_)
    refine gp_sel hj (nm_r (nx_1023 _) ?_)
    refine pk_eq (gp_w8 a j % 1024) 1023 (fun e => ?_) (fun ne => ?_)
    · refine nm_r (nI_1 j) (k' w ?_)
      rcases stp with ⟨_, z⟩ | ⟨_, z⟩
      · rw [z]
        exact hw
      · have := z.2.2.1
        omega
    · rcases stp with ⟨z, _⟩ | ⟨en, eT, eX, es, ek⟩
      · exact absurd z ne
      · have hr : gl_rel j (gl_c L xs (32 * bl + j)) < 100 := by unfold gl_rel; omega
        refine gl_relW (by omega) hdd ?_
        refine pk_eq (gl_rel j (gl_c L xs (32 * bl + j))) sr (fun e => ?_) (fun e => ?_)
        · have him : gl_item (gl_p L xs (32 * bl + j)) (gl_c L xs (32 * bl + j)) y < y := Nat.mod_lt _ (by omega)
          refine gl_itemW hp hdd hy1 hy (nm_r (gl_10x _) (gl_amW hp hdd (by omega) (nm_r (gl_k7 hp) ?_)))
          rw [gp_get10 (show 10 * gl_item (gl_p L xs (32 * bl + j)) (gl_c L xs (32 * bl + j)) y < 64 by omega)]
          refine nm_e ?_
          have hTq : T (N j) = q kk := by rw [eT, hq, e]
          have hen : N j < n := by have := Nn (j + 1) (by omega); omega
          have ham : gl_am (gl_p L xs (32 * bl + j)) (gl_c L xs (32 * bl + j)) (32 * bl + j) < 1000 := Nat.mod_lt _ (by decide)
          have hw0 := hw _ him
          have r1 := gp_R1 h hkk hen hTq
          rw [eX, ← hw0] at r1
          have v1 := h.2.2.2.2.2.2.2.2.2.2.2.1 (N j) hen (by rw [hTq]; exact gp_q4 h hkk)
          rw [eX, r1] at v1
          have hfl := gp_fd_lt w (10 * gl_item (gl_p L xs (32 * bl + j)) (gl_c L xs (32 * bl + j)) y) 10
          have hf3 : gp_fd w (10 * gl_item (gl_p L xs (32 * bl + j)) (gl_c L xs (32 * bl + j)) y) 10 < 1000 := by
            obtain ⟨z, z1, z2⟩ := gp_cv (lv := lv) (n := N j) (P := gs_Wr T X K st (nI (gl_item (gl_p L xs (32 * bl + j)) (gl_c L xs (32 * bl + j)) y))) (fun j' hj' => h.2.2.2.1 j' (by omega))
            rw [r1] at z2
            have := (nI_eq (by omega) (by omega)).mp z2
            omega
          have put : ∀ v, v < 1024 → ((¬ K (N j) &&& 2 = 0 ∧ lv (N j) = nI v) ∨ (K (N j) &&& 2 = 0 ∧ v = gp_fd w (10 * gl_item (gl_p L xs (32 * bl + j)) (gl_c L xs (32 * bl + j)) y) 10)) →
              wL_law_1071 post L xs J61 J123 J745 (wL_law_884 post L xs J61 J123 J745 hd (nI y) (nI nn) (o 0) (o 1) (o 2) (o 3) sn (nI bl) (a 0) (a 1) (a 2) (a 3) (a 4) (a 5) (a 6) (a 7) (nI (14 * bl)) (nI u) (nI i) (nI kk) (nI qq) (nI sr) kc ks sl it (nI b) (nI n) (nI c) st pr rf lt li lk lv so m) hd (nI y) (nI nn) (o 0) (o 1) (o 2) (o 3) sn w (nI bl) (a 0) (a 1) (a 2) (a 3) (a 4) (a 5) (a 6) (a 7) (nI (14 * bl)) (nI u) (nI i) (nI kk) (nI qq) (nI sr) (nI j) (nI (10 * gl_item (gl_p L xs (32 * bl + j)) (gl_c L xs (32 * bl + j)) y)) (nI v) kc ks sl it (nI b) (nI n) (nI c) st pr rf lt li lk lv so := by
            intro v hv hk
            unfold wL_law_1071
            refine nm_r (gp_set10 (by omega) hv) (nm_r (nI_1 j) (k' _ ?_))
            rw [en]
            exact gl_rp hy hTq eX him hv hw hk
          rcases ek with ⟨e0, eK, el⟩ | ⟨e0, eK, eA⟩ | ⟨e0, eK, eA, el⟩
          · rw [e0]
            refine br_f (by decide) (br_f (by decide) ?_)
            unfold wL_law_1056
            refine br_f (by decide) (br_t ?_ (put _ (by omega) (Or.inr ⟨by rw [eK]; decide, rfl⟩)))
            rw [← el, v1, eK]
            unfold gp_ap
            rw [if_pos rfl]
          · rw [e0]
            refine br_t rfl ?_
            unfold wL_law_1056
            refine br_t rfl (put _ (by omega) (Or.inl ⟨by rw [eK]; decide, ?_⟩))
            rw [v1, eK, eA]
            unfold gp_ap
            rw [if_neg (show ¬ (2 : Int32) = 1 by decide), if_pos rfl]
          · have e3 := gp_ap3 hf3 ham
            rw [eK, eA, e3] at v1
            rw [e0]
            refine br_f (by decide) (br_t rfl ⟨by decide, nm_r (e' := nI ((gp_fd w (10 * gl_item (gl_p L xs (32 * bl + j)) (gl_c L xs (32 * bl + j)) y) 10 + gl_am (gl_p L xs (32 * bl + j)) (gl_c L xs (32 * bl + j)) (32 * bl + j)) % 1000)) ?_ ?_⟩)
            · rw [← e3]
              unfold gp_ap
              rw [if_neg (show ¬ (3 : Int32) = 1 by decide), if_neg (show ¬ (3 : Int32) = 2 by decide)]
            · unfold wL_law_1056
              refine br_f (by decide) (br_t (el.symm.trans v1) (put _ (by omega) (Or.inl ⟨by rw [eK]; decide, v1⟩)))
        · refine nm_r (nI_1 j) (k' w ?_)
          intro x hx
          rw [en, gs_lst_f (fun z => ?_)]
          · exact hw x hx
          · have := z.1
            rw [eT, hq] at this
            omega
end
