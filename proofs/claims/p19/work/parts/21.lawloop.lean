/-! the law's two loops -/
def gl_dn (hd : Int32) (bl i r : Nat) : Prop := ((hd >>> ((2 + nI bl) &&& 31)) &&& 1 = 0 → r + 32 ≤ i) ∧ (¬ (hd >>> ((2 + nI bl) &&& 31)) &&& 1 = 0 → 47 ≤ r + i)
theorem gl_dn_lo {hd : Int32} {bl i r : Nat} (hi : i ≤ 32) (h1 : 1 ≤ r) (h2 : r ≤ 14) : ¬ gl_dn hd bl i r := by
  intro h
  by_cases c : (hd >>> ((2 + nI bl) &&& 31)) &&& 1 = 0
  · have := h.1 c
    omega
  · have := h.2 c
    omega
section
variable {post : Int32 → Prop} {L : Nat} {xs : Nat → Int32} {J61 : Int64 → Int64 → Int64 → Int64 → Int64 → Int64 → Int32 → Int32 → Int32 → Int32 → Int32 → Int32 → (Nat → Int32) → (Nat → Int64) → (Nat → Int64) → (Nat → Int32) → (Nat → Int32) → (Nat → Int32) → (Nat → Int32) → (Nat → Int32) → Prop} {hd sl it : Int32} {y nn kc ks : Nat}
theorem gl_123 {bl r : Nat} {cs : Nat → Nat} (hLL : L ≤ 260) (hbl : bl < 4) (hy1 : 1 ≤ y) (hy : y ≤ 4) (hnn : nn ≤ 128) (hr : (32 * bl + 32 ≤ nn → r = 32) ∧ (nn < 32 * bl + 32 → r = nn - 32 * bl))
    (kE : ∀ (b n c : Nat) (o a : Nat → Int64) (sn vl : Int64) (st so : Nat → Int32) (pr rf : Nat → Int64) (lt li lk lv : Nat → Int32) (T : Nat → Nat) (X K A : Nat → Int32) (F : Nat → Nat → Prop) (q N : Nat → Nat), gl_B L xs y bl r c b n c o a sn vl sl it st so pr rf lt li lk lv T X K A F q N cs → b = 14 * bl + gl_bg r → (∀ r', 1 ≤ r' → r' ≤ 14 → 14 * bl + r' ≤ b → ¬ st (14 * bl + r') = 1) → J61 (o 0) (o 1) (o 2) (o 3) sn vl (nI (bl + 1)) sl it (nI b) (nI n) (nI c) st pr rf lt li lk lv so) (d : Nat) :
    ∀ i e, i + d = 46 → (i ≤ r → e = i) → (r ≤ i → e = r) → ∀ (b n c : Nat) (o a : Nat → Int64) (sn vl : Int64) (st so : Nat → Int32) (pr rf : Nat → Int64) (lt li lk lv : Nat → Int32) (T : Nat → Nat) (X K A : Nat → Int32) (F : Nat → Nat → Prop) (q N : Nat → Nat), gl_B L xs y bl e c b n c o a sn vl sl it st so pr rf lt li lk lv T X K A F q N cs → b = 14 * bl + gl_bg e → (∀ r', 1 ≤ r' → r' ≤ 14 → gl_dn hd bl i r' → 14 * bl + r' ≤ b → ¬ st (14 * bl + r') = 1) →
      wL_law_123 post L xs J61 hd (nI y) (nI nn) (nI bl) (nI (14 * bl)) kc ks (d + 1) (o 0) (o 1) (o 2) (o 3) sn vl (a 0) (a 1) (a 2) (a 3) (a 4) (a 5) (a 6) (a 7) (nI (c - cs bl)) (nI i) sl it (nI b) (nI n) (nI c) st pr rf lt li lk lv so := by
  induction d with
  | zero =>
    intro i e hid he1 he2 b n c o a sn vl st so pr rf lt li lk lv T X K A F q N hB hb hdn
    obtain rfl : i = 46 := by omega
    obtain rfl := he2 (by omega)
    refine pk_le 46 46 (fun _ => nm_r (nI_1 bl) ?_) (fun z => absurd z (by omega))
    refine kE b n c o a sn vl st so pr rf lt li lk lv T X K A F q N hB hb (fun r' r1 r2 r3 => hdn r' r1 r2 ⟨fun _ => by omega, fun _ => by omega⟩ r3)
  | succ d ih =>
    intro i e hid he1 he2 b n c o a sn vl st so pr rf lt li lk lv T X K A F q N hB hb hdn
    refine pk_le 46 i (fun z => absurd z (by omega)) (fun _ => nm_r (gl_g bl i) ?_)
    refine pk_le 32 i (fun h32 => ?_) (fun h32 => pk_lt (32 * bl + i) nn (fun hlt => ?_) (fun hge => ?_))
    · have her : e = r := he2 (by omega)
      subst her
      have fin : ∀ tt, (gl_dn hd bl (i + 1) (tt - 14 * bl) ∧ 14 * bl < tt ∧ ∀ r', 1 ≤ r' → r' ≤ 14 → gl_dn hd bl (i + 1) r' → gl_dn hd bl i r' ∨ 14 * bl + r' = tt) → (((hd >>> ((2 + nI bl) &&& 31)) &&& 1 = 0 ∧ tt = 14 * bl + (i - 31)) ∨ (¬ (hd >>> ((2 + nI bl) &&& 31)) &&& 1 = 0 ∧ tt = 14 * bl + (46 - i))) →
          wL_law_156 post L xs J61 (wL_law_123 post L xs J61 hd (nI y) (nI nn) (nI bl) (nI (14 * bl)) kc ks (d + 1)) hd (nI y) (nI nn) (o 0) (o 1) (o 2) (o 3) sn vl (nI bl) (a 0) (a 1) (a 2) (a 3) (a 4) (a 5) (a 6) (a 7) (nI (14 * bl)) (nI (c - cs bl)) (nI i) (nI (32 * bl + i)) kc ks sl it (nI b) (nI n) (nI c) st pr rf lt li lk lv so := by
        intro tt h1 h2
        refine gl_156b hB hLL hbl hy1 hy rfl (by omega) (by omega) h2 (fun c o sn vl st' so q hB' hst ht => ?_)
        refine ih (i + 1) e (by omega) (fun _ => by omega) (fun _ => rfl) b n c o a sn vl st' so pr rf lt li lk lv T X K A F q N hB' hb (fun r' r1 r2 r3 r4 => ?_)
        rcases h1.2.2 r' r1 r2 r3 with z | z
        · exact fun y => hdn r' r1 r2 z r4 ((hst _ (by omega) r4).2.2 y)
        · rw [z] at r4 ⊢
          exact ht r4
      by_cases c : (hd >>> ((2 + nI bl) &&& 31)) &&& 1 = 0
      · refine fin (14 * bl + (i - 31)) ⟨⟨fun _ => by omega, fun z => absurd c z⟩, by omega, fun r' r1 r2 g => ?_⟩ (Or.inl ⟨c, rfl⟩)
        have g1 := g.1 c
        by_cases z : r' + 32 ≤ i
        · exact Or.inl ⟨fun _ => z, fun y => absurd c y⟩
        · exact Or.inr (by omega)
      · refine fin (14 * bl + (46 - i)) ⟨⟨fun z => absurd z c, fun _ => by omega⟩, by omega, fun r' r1 r2 g => ?_⟩ (Or.inr ⟨c, rfl⟩)
        have g1 := g.2 c
        by_cases z : 47 ≤ r' + i
        · exact Or.inl ⟨fun y => absurd y c, fun _ => z⟩
        · exact Or.inr (by omega)
    · have hei : e = i := he1 (by omega)
      subst hei
      refine gl_156a (b1 := 14 * bl + gl_bg (e + 1)) hB hb rfl hLL hbl hy1 hy rfl (by omega) ?_
      intro n c o a sn vl st so pr rf lt li lk lv T X K A F q N hB'
      exact ih (e + 1) (e + 1) (by omega) (fun _ => rfl) (fun _ => by omega) _ n c o a sn vl st so pr rf lt li lk lv T X K A F q N hB' rfl (fun r' r1 r2 r3 => absurd r3 (gl_dn_lo (by omega) r1 r2))
    · have her : e = r := he2 (by omega)
      subst her
      refine nm_r (nI_1 i) ?_
      exact ih (i + 1) e (by omega) (fun _ => by omega) (fun _ => rfl) b n c o a sn vl st so pr rf lt li lk lv T X K A F q N hB hb (fun r' r1 r2 r3 => absurd r3 (gl_dn_lo (by omega) r1 r2))
/-- the next block's beginning -/
theorem gl_next {bl b n c : Nat} {o a : Nat → Int64} {sn vl : Int64} {st so : Nat → Int32} {pr rf : Nat → Int64} {lt li lk lv : Nat → Int32} {T : Nat → Nat} {X K A : Nat → Int32} {F : Nat → Nat → Prop} {q N cs : Nat → Nat} {e : Nat} (hbl : bl < 4) (hB : gl_B L xs y bl e c b n c o a sn vl sl it st so pr rf lt li lk lv T X K A F q N cs) (hb : b = 14 * bl + 14)
    (hdn : ∀ r', 1 ≤ r' → r' ≤ 14 → 14 * bl + r' ≤ b → ¬ st (14 * bl + r') = 1) : gl_B L xs y (bl + 1) 0 c b n c o (fun _ => 287953294993589247) sn vl sl it st so pr rf lt li lk lv T X K A F q (fun _ => n) (fun e => if e ≤ bl then cs e else c) := by
  obtain ⟨J, hi, hb', hfin, hN, hC, hcs, hk, hO, hsn, hvl, hrec, hemp⟩ := hB
  have hdone := gp_done J (fun t t1 t2 => by
    by_cases z : t ≤ 14 * bl
    · rcases hfin t t1 z with y | y
      · rw [y]; decide
      · rw [y]; decide
    · have := hdn (t - 14 * bl) (by omega) (by omega) (by omega)
      rw [show 14 * bl + (t - 14 * bl) = t by omega] at this
      exact this)
  have hQ := J.2.2.2.2.2.2.2.2.1
  have cl : ∀ e, e ≤ bl → (if e ≤ bl then cs e else c) = cs e := fun e he => if_pos he
  have cg : (if bl + 1 ≤ bl then cs (bl + 1) else c) = c := if_neg (by omega)
  refine ⟨J, hi, ⟨by omega, by omega⟩, fun t t1 t2 => hdone t t1 (by omega), ⟨rfl, fun f hf => ?_, fun _ _ => Nat.le_refl n, fun j hj => Or.inl ⟨?_, rfl⟩⟩, ⟨?_, fun e he => ?_, ?_, ?_, fun k k1 k2 => ?_⟩, ?_, ⟨?_, Nat.le_refl c⟩, fun e he => ?_, hsn, hvl, fun j hj z => ?_, fun j _ _ => gp_emp j⟩
  · have := (J.2.1 f hf).2.2.1
    omega
  · rw [gp_emp]
  · show (if 0 ≤ bl then cs 0 else c) = 0
    rw [cl 0 (Nat.zero_le bl)]
    exact hC.1
  · by_cases z : e = bl
    · subst z
      show (if e ≤ e then cs e else c) ≤ (if e + 1 ≤ e then cs (e + 1) else c) ∧ (if e + 1 ≤ e then cs (e + 1) else c) ≤ (if e ≤ e then cs e else c) + 14 ∧ ∀ k, (if e ≤ e then cs e else c) ≤ k → k < (if e + 1 ≤ e then cs (e + 1) else c) → 14 * e < q k ∧ q k ≤ 14 * e + 14
      rw [cl e (Nat.le_refl e), cg]
      exact ⟨hC.2.2.1, hC.2.2.2.1, hC.2.2.2.2⟩
    · show (if e ≤ bl then cs e else c) ≤ (if e + 1 ≤ bl then cs (e + 1) else c) ∧ (if e + 1 ≤ bl then cs (e + 1) else c) ≤ (if e ≤ bl then cs e else c) + 14 ∧ ∀ k, (if e ≤ bl then cs e else c) ≤ k → k < (if e + 1 ≤ bl then cs (e + 1) else c) → 14 * e < q k ∧ q k ≤ 14 * e + 14
      rw [cl e (by omega), cl (e + 1) (by omega)]
      exact hC.2.1 e (by omega)
  · show (if bl + 1 ≤ bl then cs (bl + 1) else c) ≤ c
    rw [cg]
    exact Nat.le_refl c
  · show c ≤ (if bl + 1 ≤ bl then cs (bl + 1) else c) + 14
    rw [cg]
    omega
  · have k1' : c ≤ k := by
      have z : (if bl + 1 ≤ bl then cs (bl + 1) else c) ≤ k := k1
      rw [cg] at z
      exact z
    omega
  · show (if bl + 1 ≤ bl then cs (bl + 1) else c) = _
    rw [cg, hQ.1, hb, show 14 * (bl + 1) = 14 * bl + 14 by omega]
  · show (if bl + 1 ≤ bl then cs (bl + 1) else c) ≤ c
    rw [cg]
    exact Nat.le_refl c
  · rw [hO e he]
    show lN (gp_nb _ (cs e) (gl_m bl c cs e)) = lN (gp_nb _ (if e ≤ bl then cs e else c) (gl_m (bl + 1) c (fun e => if e ≤ bl then cs e else c) e))
    unfold gl_m
    dsimp only
    by_cases z : e < bl
    · rw [if_pos z, if_pos (show e < bl + 1 by omega), cl e (by omega), cl (e + 1) (by omega)]
    · by_cases z2 : e = bl
      · subst z2
        rw [if_neg z, if_pos rfl, if_pos (show e < e + 1 by omega), cl e (Nat.le_refl e), cg]
      · rw [if_neg z, if_neg z2, if_neg (show ¬ e < bl + 1 by omega)]
        by_cases z3 : e = bl + 1
        · rw [if_pos z3, cg, Nat.sub_self]
          rfl
        · rw [if_neg z3]
          rfl
  · rw [gp_emp] at z
    exact absurd (by decide) z
theorem gl_61 (hLL : L ≤ 260) (hy1 : 1 ≤ y) (hy : y ≤ 4) (hnn : nn ≤ 128) (hp : post 1) (d : Nat) : ∀ bl, bl + d = 4 → ∀ (b n c : Nat) (o a : Nat → Int64) (sn vl : Int64) (st so : Nat → Int32) (pr rf : Nat → Int64) (lt li lk lv : Nat → Int32) (T : Nat → Nat) (X K A : Nat → Int32) (F : Nat → Nat → Prop) (q N : Nat → Nat) (cs : Nat → Nat), (nn ≤ 32 * bl ∨ (b = 14 * bl ∧ cs bl = c ∧ gl_B L xs y bl 0 c b n c o (fun _ => 287953294993589247) sn vl sl it st so pr rf lt li lk lv T X K A F q N cs)) →
    wL_law_61 post L xs hd (nI y) (nI nn) kc ks (d + 1) (o 0) (o 1) (o 2) (o 3) sn vl (nI bl) sl it (nI b) (nI n) (nI c) st pr rf lt li lk lv so := by
  induction d with
  | zero =>
    intro bl hbl b n c o a sn vl st so pr rf lt li lk lv T X K A F q N cs h
    have e32 : (32 : Int32) * nI bl = nI (32 * bl) := pk_mul 32 bl
    unfold wL_law_61
    rw [e32]
    exact pk_le nn (32 * bl) (fun _ => hp) (fun z => absurd z (by omega))
  | succ d ih =>
    intro bl hbl b n c o a sn vl st so pr rf lt li lk lv T X K A F q N cs h
    have e32 : (32 : Int32) * nI bl = nI (32 * bl) := pk_mul 32 bl
    have e14 : (14 : Int32) * nI bl = nI (14 * bl) := pk_mul 14 bl
    unfold wL_law_61
    rw [e32]
    refine pk_le nn (32 * bl) (fun _ => hp) (fun hlt => nm_r e14 ?_)
    obtain ⟨hb, hcs, hB⟩ := h.resolve_left (by omega)
    obtain ⟨r, hr⟩ : ∃ r, (32 * bl + 32 ≤ nn → r = 32) ∧ (nn < 32 * bl + 32 → r = nn - 32 * bl) := by
      by_cases z : 32 * bl + 32 ≤ nn
      · exact ⟨32, fun _ => rfl, fun y => absurd y (by omega)⟩
      · exact ⟨nn - 32 * bl, fun y => absurd y z, fun _ => rfl⟩
    refine ⟨46 + 1, ?_⟩
    have key := gl_123 (post := post) (J61 := wL_law_61 post L xs hd (nI y) (nI nn) kc ks (d + 1)) (hd := hd) (sl := sl) (it := it) (kc := kc) (ks := ks) (cs := cs) hLL (by omega : bl < 4) hy1 hy hnn hr (fun b n c o a sn vl st so pr rf lt li lk lv T X K A F q N hB' hb' hdn => ?_) 46 0 0 rfl (fun _ => rfl) (fun _ => by omega) b n c o (fun _ => 287953294993589247) sn vl st so pr rf lt li lk lv T X K A F q N hB (by rw [hb]; rfl) (fun r' r1 r2 r3 => absurd r3 (gl_dn_lo (by omega) r1 r2))
    · rw [hcs, Nat.sub_self] at key
      exact key
    · refine ih (bl + 1) (by omega) b n c o a sn vl st so pr rf lt li lk lv T X K A F q (fun _ => n) (fun e => if e ≤ bl then cs e else c) ?_
      by_cases z : nn ≤ 32 * (bl + 1)
      · exact Or.inl z
      · have r32 : r = 32 := hr.1 (by omega)
        have hb2 : b = 14 * bl + 14 := by
          rw [hb', r32]
          rfl
        exact Or.inr ⟨by omega, if_neg (by omega), gl_next (by omega) hB' hb2 hdn⟩
end
