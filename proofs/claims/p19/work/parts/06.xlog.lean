/-! X: the log -/
/-- entry i writes x and stands -/
def gs_Wr (T : Nat → Nat) (X K st : Nat → Int32) (x : Int32) (i : Nat) : Prop := (X i = x ∧ ¬ K i &&& 2 = 0) ∧ ¬ st (T i) = 5
/-- entry i writes x and is settled -/
def gs_Ws (T : Nat → Nat) (X K st : Nat → Int32) (x : Int32) (i : Nat) : Prop := (X i = x ∧ ¬ K i &&& 2 = 0) ∧ st (T i) = 4
/-- entry i is t's and writes x -/
def gs_Wt (T : Nat → Nat) (X K : Nat → Int32) (t : Nat) (x : Int32) (i : Nat) : Prop := T i = t ∧ X i = x ∧ ¬ K i &&& 2 = 0
def gs_val (d : Int32) (lv : Nat → Int32) : Nat → Int32
  | 0 => d
  | i + 1 => lv i
def gs_wrt (T : Nat → Nat) : Nat → Nat
  | 0 => 0
  | i + 1 => T i
theorem gs_dn (i : Nat) : nI i + (-1) = nI i - 1 := (Int32.sub_eq_add_neg (nI i) 1).symm
theorem gs_dn0 : nI 0 - 1 < 0 := by decide
section
variable {sl it : Int32} {b n c : Nat} {st : Nat → Int32} {pr rf : Nat → Int64} {lt li lk lv so : Nat → Int32} {T : Nat → Nat} {X K : Nat → Int32}
theorem xl_writesItem {post : Int32 → Prop} {i : Nat} {x : Int32} (hL : gs_Lg n b T X K lt li lk) (hn : n ≤ 128) (hi : i < n) (p1 : X i = x ∧ ¬ K i &&& 2 = 0 → post 1) (p0 : ¬ (X i = x ∧ ¬ K i &&& 2 = 0) → post 0) : wpX_writesItem post (sl, it, nI b, nI n, nI c, st, pr, rf, lt, li, lk, lv, so) (nI i) x := by
  have hin : vp_in (nI i) 128 := vp_in_nI (by omega) (by omega)
  have hcl : (nI i).toNatClampNeg = i := nI_clamp (by omega)
  unfold wpX_writesItem
  dsimp only
  rw [hcl, (hL i hi).2.2.2.1, (hL i hi).2.2.2.2]
  exact ⟨hin, br_c (fun a => ⟨hin, br_c (fun d => p0 (fun z => z.2 d)) (fun d => p1 ⟨a, d⟩)⟩) (fun a => p0 (fun z => a z.1))⟩
theorem xl_isStanding {post : Int32 → Prop} {i : Nat} (hL : gs_Lg n b T X K lt li lk) (hn : n ≤ 128) (hb : b ≤ 64) (hi : i < n) (p1 : ¬ st (T i) = 5 → post 1) (p0 : st (T i) = 5 → post 0) : wpX_isStanding post (sl, it, nI b, nI n, nI c, st, pr, rf, lt, li, lk, lv, so) (nI i) := by
  have hin : vp_in (nI i) 128 := vp_in_nI (by omega) (by omega)
  have hcl : (nI i).toNatClampNeg = i := nI_clamp (by omega)
  have h := hL i hi
  have hcl' : (nI (T i)).toNatClampNeg = T i := nI_clamp (by omega)
  unfold wpX_isStanding
  dsimp only
  rw [hcl, h.1, hcl']
  exact ⟨hin, vp_in_nI (by omega) (by omega), br_c p0 p1⟩
theorem xl_lastWrite {post : Int32 → Prop} {x : Int32} (hL : gs_Lg n b T X K lt li lk) (hn : n ≤ 128) (hb : b ≤ 64) (p0 : gs_lst (gs_Wr T X K st x) n = 0 → post (-1)) (p1 : ∀ i, gs_lst (gs_Wr T X K st x) n = i + 1 → post (nI i)) : wpX_lastWrite post (sl, it, nI b, nI n, nI c, st, pr, rf, lt, li, lk, lv, so) x := by
  unfold wpX_lastWrite
  dsimp only
  refine nm_e ⟨n + 1, ?_⟩
  refine pk_loopD (σ := Unit) (fun m i _ => wX_lastWrite_7 post x sl it (nI b) (nI n) (nI c) st pr rf lt li lk lv so m (nI i - 1)) (fun i _ => i ≤ n ∧ gs_lst (gs_Wr T X K st x) i = gs_lst (gs_Wr T X K st x) n) ?_ ?_ n () ⟨Nat.le_refl n, rfl⟩
  · intro m _ h
    exact br_t gs_dn0 (p0 h.2.symm)
  · intro m i _ h k
    rw [nI_pred]
    refine br_f (nI_pos (by omega)) ?_
    refine xl_writesItem hL hn (by omega) (fun a => ?_) (fun a => ?_)
    · refine br_f (by decide) (xl_isStanding hL hn hb (by omega) (fun d => ?_) (fun d => ?_))
      · rw [gs_lst_t ⟨a, d⟩] at h
        exact br_f (by decide) (p1 i h.2.symm)
      · rw [gs_lst_f (fun z => z.2 d)] at h
        exact br_t rfl (nm_r (gs_dn i) (k () ⟨by omega, h.2⟩))
    · rw [gs_lst_f (fun z => a z.1)] at h
      exact br_t rfl (nm_r (gs_dn i) (k () ⟨by omega, h.2⟩))
theorem xl_cur {post : Int32 → Prop} {x : Int32} (hL : gs_Lg n b T X K lt li lk) (hn : n ≤ 128) (hb : b ≤ 64) (hp : post (gs_val 0 lv (gs_lst (gs_Wr T X K st x) n))) : wpX_currentValue post (sl, it, nI b, nI n, nI c, st, pr, rf, lt, li, lk, lv, so) x := by
  unfold wpX_currentValue
  dsimp only
  refine xl_lastWrite hL hn hb (fun e => ?_) (fun i e => ?_)
  · rw [e] at hp
    exact br_f (by decide) hp
  · have hi := (gs_lst_in e).1
    rw [e] at hp
    refine br_t (nI_pos' (by omega)) ⟨vp_in_nI (by omega) (by omega), ?_⟩
    rw [nI_clamp (show i < 2 ^ 31 by omega)]
    exact hp
theorem xl_lastWriter {post : Int32 → Prop} {x : Int32} (hL : gs_Lg n b T X K lt li lk) (hn : n ≤ 128) (hb : b ≤ 64) (hp : post (nI (gs_wrt T (gs_lst (gs_Wr T X K st x) n)))) : wpX_lastWriter post (sl, it, nI b, nI n, nI c, st, pr, rf, lt, li, lk, lv, so) x := by
  unfold wpX_lastWriter
  dsimp only
  refine xl_lastWrite hL hn hb (fun e => ?_) (fun i e => ?_)
  · rw [e] at hp
    exact br_f (by decide) hp
  · have hi := (gs_lst_in e).1
    rw [e] at hp
    refine br_t (nI_pos' (by omega)) ⟨vp_in_nI (by omega) (by omega), ?_⟩
    rw [nI_clamp (show i < 2 ^ 31 by omega), (hL i hi).1]
    exact hp
theorem gs_wrt_in {P : Nat → Prop} (hL : gs_Lg n b T X K lt li lk) : gs_wrt T (gs_lst P n) = 0 ∨ (1 ≤ gs_wrt T (gs_lst P n) ∧ gs_wrt T (gs_lst P n) ≤ b) := by
  cases e : gs_lst P n with
  | zero => exact Or.inl rfl
  | succ i =>
    have hi := hL i (gs_lst_in e).1
    exact Or.inr ⟨hi.2.1, hi.2.2.1⟩
theorem xl_note {post : St2 → Prop} {x : Int32} {t w : Nat} (hL : gs_Lg n b T X K lt li lk) (hn : n ≤ 128) (hb : b ≤ 64) (h2 : t ≤ b) (hw : w = gs_wrt T (gs_lst (gs_Wr T X K st x) n))
    (pN : ¬ (w ≠ 0 ∧ w ≠ t ∧ gs_un (st w)) → post (sl, it, nI b, nI n, nI c, st, pr, rf, lt, li, lk, lv, so)) (pY : w ≠ 0 → w ≠ t → gs_un (st w) → post (sl, it, nI b, nI n, nI c, st, pr, vp_updL rf t (rf t ||| gs_bit w), lt, li, lk, lv, so)) : wpX_noteReading post (sl, it, nI b, nI n, nI c, st, pr, rf, lt, li, lk, lv, so) (nI t) x := by
  have hwb := gs_wrt_in (P := gs_Wr T X K st x) hL
  rw [← hw] at hwb
  have hin : vp_in (nI t) 65 := vp_in_nI (by omega) (by omega)
  have hcl : (nI t).toNatClampNeg = t := nI_clamp (by omega)
  unfold wpX_noteReading
  dsimp only
  refine xl_lastWriter hL hn hb ?_
  rw [← hw]
  refine pk_eq w 0 (fun e => pN (fun z => z.1 e)) (fun e => ?_)
  refine pk_eq w t (fun e' => pN (fun z => z.2.1 e')) (fun e' => ?_)
  refine xo_isUnf (by omega) (fun u => ?_) (fun u => ?_)
  · refine br_f (by decide) ⟨hin, xo_bit (by omega) (by omega) ⟨hin, nm_r (e' := vp_updL rf t (rf t ||| gs_bit w)) (by rw [hcl]) (pY e e' u)⟩⟩
  · exact br_t rfl (pN (fun z => u z.2.2))
theorem xl_enter {post : St2 → Prop} {t : Nat} {x k v : Int32} {w : Int64} (hn : n < 128) (hb : b ≤ 64) (h2 : t ≤ b)
    (hp : post (sl, it, nI b, nI (n + 1), nI c, st, vp_updL pr t (pr t ||| w), rf, upd lt n (nI t), upd li n x, upd lk n k, upd lv n v, so)) : wpX_enter post (sl, it, nI b, nI n, nI c, st, pr, rf, lt, li, lk, lv, so) (nI t) x k v w := by
  have hin : vp_in (nI n) 128 := vp_in_nI (by omega) (by omega)
  have hit : vp_in (nI t) 65 := vp_in_nI (by omega) (by omega)
  have hcl : (nI t).toNatClampNeg = t := nI_clamp (by omega)
  have hcn : (nI n).toNatClampNeg = n := nI_clamp (by omega)
  unfold wpX_enter
  dsimp only
  rw [hcl, hcn]
  exact ⟨hin, nm_e ⟨hin, nm_e ⟨hin, nm_e ⟨hin, nm_e (nm_r (nI_1 n) ⟨hit, hit, nm_e hp⟩)⟩⟩⟩⟩
theorem gs_Cf_s {st : Nat → Int32} {i t : Nat} {x k : Int32} (z : Nat) : gs_Cf (i + 1) T X K st t x k z ↔ gs_Cf i T X K st t x k z ∨ (z = T i ∧ T i ≠ t ∧ X i = x ∧ ¬ ((K i ||| k) &&& 2 = 0) ∧ ¬ st (T i) = 5) := by
  constructor
  · rintro ⟨j, hj, rfl, h⟩
    by_cases e : j = i
    · subst e
      exact Or.inr ⟨rfl, h⟩
    · exact Or.inl ⟨j, by omega, rfl, h⟩
  · rintro (⟨j, hj, rfl, h⟩ | ⟨rfl, h⟩)
    · exact ⟨j, by omega, rfl, h⟩
    · exact ⟨i, by omega, rfl, h⟩
theorem xl_conf {post : Int64 → Prop} {t : Nat} {x k : Int32} (hL : gs_Lg n b T X K lt li lk) (hn : n ≤ 128) (hb : b ≤ 64) (h2 : t ≤ b) (hp : ∀ w, (∀ s, gs_m w s ↔ gs_Cf n T X K st t x k s) → post w) : wpX_conflictsOf post (sl, it, nI b, nI n, nI c, st, pr, rf, lt, li, lk, lv, so) (nI t) x k := by
  unfold wpX_conflictsOf
  dsimp only
  refine pk_loop (σ := Int64) (fun m i s => wX_conflictsOf_6 post (nI t) x k sl it (nI b) (nI n) (nI c) st pr rf lt li lk lv so m s (nI i)) (fun i s => ∀ z, gs_m s z ↔ gs_Cf i T X K st t x k z) n 0 0 (Nat.zero_le n) ?_ ?_ ?_
  · exact fun z => ⟨fun h => absurd h (gs_m_0 z), fun ⟨j, hj, _⟩ => absurd hj (by omega)⟩
  · intro m s hs
    exact pk_le n n (fun _ => hp s hs) (fun h => absurd h (by omega))
  · intro m i s hi hs kk
    refine pk_le n i (fun h => absurd h (by omega)) (fun _ => ?_)
    have hin : vp_in (nI i) 128 := vp_in_nI (by omega) (by omega)
    have hcl : (nI i).toNatClampNeg = i := nI_clamp (by omega)
    have h := hL i hi
    have no : ¬ (T i ≠ t ∧ X i = x ∧ ¬ ((K i ||| k) &&& 2 = 0) ∧ ¬ st (T i) = 5) → wX_conflictsOf_6 post (nI t) x k sl it (nI b) (nI n) (nI c) st pr rf lt li lk lv so m s (nI (i + 1)) := by
      intro hz
      refine kk s (fun z => ?_)
      rw [gs_Cf_s, hs z]
      exact ⟨Or.inl, fun y => y.elim (fun y => y) (fun y => absurd y.2 hz)⟩
    refine ⟨hin, ?_⟩
    rw [hcl, h.2.2.2.2]
    refine br_c (fun kz => ?_) (fun kz => ?_)
    · unfold wX_conflictsOf_34
      rw [hcl, h.1, h.2.2.2.1]
      refine ⟨hin, br_c (fun _ => nm_r (nI_1 i) (no (fun y => y.2.2.1 kz))) (fun _ => ⟨hin, br_c (fun _ => br_t rfl (nm_r (nI_1 i) (no (fun y => y.2.2.1 kz)))) (fun _ => nm_r (nI_1 i) (no (fun y => y.2.2.1 kz)))⟩)⟩
    · unfold wX_conflictsOf_34
      rw [hcl, h.1, h.2.2.2.1]
      refine ⟨hin, pk_eq (T i) t (fun e => nm_r (nI_1 i) (no (fun y => y.1 e))) (fun e => ⟨hin, br_c (fun ex => br_f (by decide) ?_) (fun ex => nm_r (nI_1 i) (no (fun y => ex y.2.1)))⟩)⟩
      refine xl_isStanding hL hn hb hi (fun d => ?_) (fun d => br_t rfl (nm_r (nI_1 i) (no (fun y => y.2.2.2 d))))
      refine br_f (by decide) ⟨hin, xo_bit h.2.1 (by omega) (nm_e (nm_r (nI_1 i) (kk _ (fun z => ?_))))⟩
      rw [gs_m_or, gs_Cf_s, hs z, gs_m_bit h.2.1 (by omega)]
      exact ⟨fun y => y.elim Or.inl (fun y => Or.inr ⟨y, e, ex, kz, d⟩), fun y => y.elim Or.inl (fun y => Or.inr y.1)⟩
theorem gs_nb01 {z : Int32} (h : z = 0 ∨ z = 1) : narrow .boolean (.int z) = .int z := by
  cases h with
  | inl h => rw [h]; rfl
  | inr h => rw [h]; rfl
theorem xl_cyc {post : Int32 → Prop} {E : Nat → Nat → Prop} {t : Nat} {w : Int64} (hb : b ≤ 64) (hE : gs_PE pr E) (hEb : ∀ s t, E s t → (1 ≤ s ∧ s ≤ b) ∧ (1 ≤ t ∧ t ≤ b)) (hS : ∀ s, gs_m w s → 1 ≤ s ∧ s ≤ b) (h1 : 1 ≤ t) (h2 : t ≤ b)
    (p1 : gs_Bk (gs_m w) E t → post 1) (p0 : ¬ gs_Bk (gs_m w) E t → post 0) : wpX_closesCycle post (sl, it, nI b, nI n, nI c, st, pr, rf, lt, li, lk, lv, so) (nI t) w := by
  unfold wpX_closesCycle
  dsimp only
  refine xo_withAnc hb hE hEb hS (fun w' hw => ?_)
  exact xo_has h1 (by omega) (fun h => ⟨gs_nb01 (Or.inr rfl), p1 ((hw t).mp h)⟩) (fun h => ⟨gs_nb01 (Or.inl rfl), p0 (fun z => h ((hw t).mpr z))⟩)
end
