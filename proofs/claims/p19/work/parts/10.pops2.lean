/-! an entry, a beginning -/
section
variable {b n c : Nat} {st so : Nat → Int32} {pr rf : Nat → Int64} {T : Nat → Nat} {X K lt li lk lv A : Nat → Int32} {F : Nat → Nat → Prop} {q : Nat → Nat}
def gp_cd (st : Nat → Int32) (k : Int32) (t w : Nat) : Prop := ¬ k &&& 1 = 0 ∧ w ≠ 0 ∧ w ≠ t ∧ gs_un (st w)
def gp_F (F : Nat → Nat → Prop) (st : Nat → Int32) (k : Int32) (t ws : Nat) (u w : Nat) : Prop := F u w ∨ (gp_cd st k t ws ∧ u = t ∧ w = ws)
theorem gp_kw {a k : Int32} (h : ¬ a &&& 2 = 0) : ¬ (a ||| k) &&& 2 = 0 := by
  intro z
  apply h
  have e : (a ||| k) &&& 2 = (a &&& 2) ||| (k &&& 2) := by
    apply Int32.toBitVec_inj.mp
    rw [Int32.toBitVec_and, Int32.toBitVec_or, Int32.toBitVec_or, Int32.toBitVec_and, Int32.toBitVec_and]
    apply BitVec.eq_of_getLsbD_eq
    intro i hi
    rw [BitVec.getLsbD_and, BitVec.getLsbD_or, BitVec.getLsbD_or, BitVec.getLsbD_and, BitVec.getLsbD_and, Bool.and_or_distrib_right]
  rw [e] at z
  apply Int32.toBitVec_inj.mp
  apply BitVec.eq_of_getLsbD_eq
  intro i hi
  have z' := congrArg (fun y => (Int32.toBitVec y).getLsbD i) z
  simp only [Int32.toBitVec_or, BitVec.getLsbD_or] at z'
  have z0 : (0 : Int32).toBitVec.getLsbD i = false := by
    rw [show (0 : Int32).toBitVec = 0#32 from rfl, BitVec.getLsbD_zero]
  rw [z0] at z' ⊢
  cases q : (a &&& 2).toBitVec.getLsbD i with
  | false => rfl
  | true => rw [q] at z'; exact absurd z' (by simp)
theorem gp_J_op {t ws : Nat} {x k a v : Int32} {m : Int64} {r : Nat → Int64} (h : gp_J b n c st so pr rf T X K lt li lk lv A F q) (hn : n < 128) (h1 : 1 ≤ t) (h2 : t ≤ b) (ht : st t = 1) (hk : k = 1 ∨ k = 2 ∨ k = 3)
    (hm : ∀ s, gs_m m s ↔ gs_Cf n T X K st t x k s) (hcy : ¬ gs_Bk (gs_Cf n T X K st t x k) (gs_E n T X K st) t) (hws : ws = gs_wrt T (gs_lst (gs_Wr T X K st x) n)) (hr : (¬ k &&& 1 = 0 ∧ gs_rfN st rf t ws r) ∨ (k &&& 1 = 0 ∧ r = rf))
    (hv : v = gp_ap k a (gs_val 0 lv (gs_lst (gs_Wr T X K st x) n))) (hv' : ∃ y, y < 1000 ∧ v = nI y) :
    gp_J b (n + 1) c st so (vp_updL pr t (pr t ||| m)) r (gs_apN T n t) (upd X n x) (upd K n k) (upd lt n (nI t)) (upd li n x) (upd lk n k) (upd lv n v) (upd A n a) (gp_F F st k t ws) q := by
  obtain ⟨h0, hL, hK, hvv, hE, hRF, hA, hS, hQ, hG, hR, hV⟩ := h
  have t5 : ¬ st t = 5 := by rw [ht]; decide
  have eE := gs_E_app (X := X) (K := K) (n := n) (T := T) (x := x) (k := k) (t := t) t5
  have wf : gp_cd st k t ws → (1 ≤ ws ∧ ws ≤ b) ∧ gs_Cf n T X K st t x k ws := by
    intro cd
    cases e : gs_lst (gs_Wr T X K st x) n with
    | zero =>
      rw [e] at hws
      exact absurd hws cd.2.1
    | succ i =>
      rw [e] at hws
      have hws : ws = T i := hws
      have g := gs_lst_in e
      have l := hL i g.1
      rw [hws]
      refine ⟨⟨l.2.1, l.2.2.1⟩, i, g.1, rfl, ?_, g.2.1.1, gp_kw g.2.1.2, g.2.2⟩
      rw [← hws]
      exact cd.2.2.1
  have hE2 := gs_PE_app hE t5 h1 (by omega) hm
  have hA2 := gs_acy eE hA hcy
  have hRF2 : gs_RF r (gp_F F st k t ws) := by
    intro u u1 u2 s
    unfold gp_F
    by_cases cd : gp_cd st k t ws
    · have er : r = vp_updL rf t (rf t ||| gs_bit ws) := by
        rcases hr with ⟨_, hr | hr⟩ | ⟨z, _⟩
        · exact absurd cd.2 hr.1
        · exact hr.2
        · exact absurd z cd.1
      rw [er]
      by_cases e : u = t
      · subst e
        rw [pk_uLs, gs_m_or, hRF u u1 u2 s, gs_m_bit (wf cd).1.1 (by have := (wf cd).1.2; omega)]
        exact ⟨fun z => z.elim Or.inl (fun y => Or.inr ⟨cd, rfl, y⟩), fun z => z.elim Or.inl (fun y => Or.inr y.2.2)⟩
      · rw [pk_uLn e, hRF u u1 u2 s]
        exact ⟨Or.inl, fun z => z.elim (fun y => y) (fun y => absurd y.2.1 e)⟩
    · have er : r = rf := by
        rcases hr with ⟨z, hr | hr⟩ | ⟨_, z⟩
        · exact hr.2
        · exact absurd ⟨z, hr.1⟩ cd
        · exact z
      rw [er, hRF u u1 u2 s]
      exact ⟨Or.inl, fun z => z.elim (fun y => y) (fun y => absurd y.1 cd)⟩
  refine ⟨⟨h0.1, by omega, h0.2.2⟩, gs_Lg_app hL h1 h2, ?_, ?_, hE2, hRF2, hA2, ⟨?_, ?_, ?_, hS.2.2.2⟩, ⟨hQ.1, hQ.2.1, hQ.2.2.1, hQ.2.2.2.1, ?_⟩, ?_, ?_, ?_⟩
  · intro j hj
    by_cases e : j = n
    · rw [e, pk_us]
      exact hk
    · rw [pk_un e]
      exact hK j (by omega)
  · intro j hj
    by_cases e : j = n
    · rw [e, pk_us]
      exact hv'
    · rw [pk_un e]
      exact hvv j (by omega)
  · rintro u w (z | ⟨cd, rfl, rfl⟩)
    · have g := hS.1 u w z
      exact ⟨g.1, g.2.1, fun a d => (eE w u).mpr (Or.inl (g.2.2 a d))⟩
    · exact ⟨⟨h1, h2⟩, (wf cd).1, fun _ _ => (eE _ _).mpr (Or.inr ⟨rfl, (wf cd).2⟩)⟩
  · rintro u w (z | ⟨cd, rfl, rfl⟩) a
    · exact hS.2.1 u w z a
    · exact absurd a (gp_un_5 cd.2.2.2)
  · rintro u w (z | ⟨cd, rfl, rfl⟩) a
    · exact hS.2.2.1 u w z a
    · rw [ht] at a
      exact absurd a (by unfold gp_fin; decide)
  · intro kk hkk s hs
    rcases (eE s (q kk)).mp hs with z | z
    · exact hQ.2.2.2.2 kk hkk s z
    · have g := (hQ.2.1 kk hkk).2.2
      rw [z.1, ht] at g
      exact absurd g (by decide)
  · intro u u1 u2 g
    exact hG u u1 u2 ⟨g.1, fun w hw => g.2 w (Or.inl hw)⟩
  · intro u u1 u2 g
    exact hR u u1 u2 ⟨g.1, fun s hs => g.2 s ((eE s u).mpr (Or.inl hs))⟩
  · refine gp_V_app hL hS hV hv (fun u w z => Or.inl z) (fun hk i hi => ?_)
    rw [hi] at hws
    have hws : ws = T i := hws
    have g := gs_lst_in hi
    have l := hL i g.1
    by_cases e : T i = t
    · exact Or.inl e
    · rcases gp_bs_c (hS.2.2.2 (T i) l.2.1 l.2.2.1) with y | y | y
      · refine Or.inr (Or.inl (Or.inr ⟨⟨hk, ?_, ?_, ?_⟩, rfl, hws.symm⟩))
        · rw [hws]; omega
        · rw [hws]; exact e
        · rw [hws]; exact y
      · exact Or.inr (Or.inr y)
      · exact absurd y g.2.2
theorem gp_J_bg (h : gp_J b n c st so pr rf T X K lt li lk lv A F q) (hb : b + 1 < 64) : gp_J (b + 1) n c (upd st (b + 1) 1) so pr rf T X K lt li lk lv A F q := by
  obtain ⟨h0, hL, hK, hv, hE, hRF, hA, hS, hQ, hG, hR, hV⟩ := h
  have un : ∀ s, s ≤ b → upd st (b + 1) 1 s = st s := fun s hs => pk_un (by omega)
  have eE : gs_E n T X K (upd st (b + 1) 1) = gs_E n T X K st := by
    funext s t
    apply propext
    unfold gs_E gs_Ed
    constructor
    · rintro ⟨i, j, a, d, e, e', e1, e2, e3, e4, e5⟩
      rw [un _ (hL i (by omega)).2.2.1] at e4
      rw [un _ (hL j d).2.2.1] at e5
      exact ⟨i, j, a, d, e, e', e1, e2, e3, e4, e5⟩
    · rintro ⟨i, j, a, d, e, e', e1, e2, e3, e4, e5⟩
      refine ⟨i, j, a, d, e, e', e1, e2, e3, ?_, ?_⟩
      · rw [un _ (hL i (by omega)).2.2.1]; exact e4
      · rw [un _ (hL j d).2.2.1]; exact e5
  refine ⟨⟨hb, h0.2⟩, gs_Lg_b hL, hK, hv, ?_, hRF, ?_, ⟨?_, ?_, ?_, ?_⟩, ⟨?_, ?_, hQ.2.2.1, ?_, ?_⟩, ?_, ?_, ?_⟩
  · rw [eE]; exact hE
  · rw [eE]; exact hA
  · intro u w z
    have g := hS.1 u w z
    rw [eE, un u g.1.2, un w g.2.1.2]
    exact ⟨⟨g.1.1, by omega⟩, ⟨g.2.1.1, by omega⟩, g.2.2⟩
  · intro u w z
    have g := hS.1 u w z
    rw [un u g.1.2, un w g.2.1.2]
    exact hS.2.1 u w z
  · intro u w z
    have g := hS.1 u w z
    rw [un u g.1.2, un w g.2.1.2]
    exact hS.2.2.1 u w z
  · intro u u1 u2
    by_cases e : u = b + 1
    · rw [e, pk_us]
      exact Or.inl rfl
    · rw [pk_un e]
      exact hS.2.2.2 u u1 (by omega)
  · rw [gs_cnt_f (by rw [pk_us]; decide), hQ.1]
    exact gs_cnt_c (fun s _ hs => by rw [un s hs])
  · intro k hk
    have g := hQ.2.1 k hk
    rw [un _ g.2.1.2]
    exact ⟨g.1, ⟨g.2.1.1, by omega⟩, g.2.2⟩
  · intro u u1 u2 z
    by_cases e : u = b + 1
    · rw [e, pk_us] at z
      exact absurd z (by decide)
    · rw [pk_un e] at z
      exact hQ.2.2.2.1 u u1 (by omega) z
  · rw [eE]; exact hQ.2.2.2.2
  · intro u u1 u2 g
    have g1 := g.1
    by_cases e : u = b + 1
    · rw [e, pk_us] at g1
      exact absurd g1 (by decide)
    · rw [pk_un e] at g1
      refine hG u u1 (by omega) ⟨g1, fun w z => ?_⟩
      have g2 := g.2 w z
      rw [un w (hS.1 u w z).2.1.2] at g2
      exact g2
  · rw [eE]
    intro u u1 u2 g
    have g1 := g.1
    by_cases e : u = b + 1
    · rw [e, pk_us] at g1
      exact absurd g1 (by decide)
    · rw [pk_un e] at g1
      refine hR u u1 (by omega) ⟨g1, fun s z => ?_⟩
      have g2 := g.2 s z
      rw [un s (gs_E_in hL z).1.2] at g2
      exact g2
  · exact gp_V_mono hL hV (fun s _ hs => by rw [un s hs]) (fun s _ hs z => by rw [un s hs]; exact z)
/-! no active one: all are finished -/
theorem gp_wf {E : Nat → Nat → Prop} (hE : ∀ s t, E s t → 1 ≤ s ∧ s ≤ b) (hA : ∀ z, ¬ gs_Pl E z z) (W : Nat → Prop) (hW : ∀ t, W t → ∃ s, W s ∧ E s t) : ∀ m t, gs_cnt (fun s => gs_Pl E s t) b ≤ m → ¬ W t := by
  intro m
  induction m with
  | zero =>
    intro t ht hw
    obtain ⟨s, _, e⟩ := hW t hw
    have hs := hE s t e
    exact gs_cnt_none (A := fun s => gs_Pl E s t) (by omega) s hs.1 hs.2 (gs_L_b e)
  | succ m ih =>
    intro t ht hw
    obtain ⟨s, ws, e⟩ := hW t hw
    have hs := hE s t e
    have lt := gs_cnt_lt (A := fun z => gs_Pl E z s) (B := fun z => gs_Pl E z t) (fun z h => gs_L_s h e) (s := s) (gs_L_b e) (hA s) (m := b) hs.1 hs.2
    exact ih s (by omega) ws
theorem gp_done (h : gp_J b n c st so pr rf T X K lt li lk lv A F q) (hn : ∀ t, 1 ≤ t → t ≤ b → ¬ st t = 1) (t : Nat) (h1 : 1 ≤ t) (h2 : t ≤ b) : st t = 4 ∨ st t = 5 := by
  obtain ⟨h0, hL, hK, hv, hE, hRF, hA, hS, hQ, hG, hR, hV⟩ := h
  have key := gp_wf (b := b) (fun s t z => (gs_E_in hL z).1) hA (fun t => (1 ≤ t ∧ t ≤ b) ∧ (st t = 2 ∨ st t = 3)) (by
    rintro t ⟨tb, z | z⟩
    · have g := hG t tb.1 tb.2
      have hx : ∃ w, F t w ∧ gs_un (st w) := Classical.byContradiction fun y => g ⟨z, fun w a d => y ⟨w, a, d⟩⟩
      obtain ⟨w, a, d⟩ := hx
      have f := hS.1 t w a
      exact ⟨w, ⟨f.2.1, Or.inl (d.resolve_left (hn w f.2.1.1 f.2.1.2))⟩, f.2.2 (gp_un_5 d) (by rw [z]; decide)⟩
    · have g := hR t tb.1 tb.2
      have hx : ∃ s, gs_E n T X K st s t ∧ gs_op (st s) := Classical.byContradiction fun y => g ⟨z, fun s a d => y ⟨s, a, d⟩⟩
      obtain ⟨s, a, d⟩ := hx
      have sb := (gs_E_in hL a).1
      refine ⟨s, ⟨sb, ?_⟩, a⟩
      rcases d with d | d | d
      · exact absurd d (hn s sb.1 sb.2)
      · exact Or.inl d
      · exact Or.inr d)
  have no := key _ t (Nat.le_refl _)
  rcases hS.2.2.2 t h1 h2 with z | z | z | z | z
  · exact absurd z (hn t h1 h2)
  · exact absurd ⟨⟨h1, h2⟩, Or.inl z⟩ no
  · exact absurd ⟨⟨h1, h2⟩, Or.inr z⟩ no
  · exact Or.inl z
  · exact Or.inr z
end
