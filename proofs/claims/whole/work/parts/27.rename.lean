/-! rename: the pure side -/
theorem lk_is {R C W : Nat → Nat → Nat} {f x n : Nat} (h : lk_i R C W f x n < 20) : lk_I R C W f x n (lk_i R C W f x n) := by
  rcases Classical.em (∃ r, lk_I R C W f x n r) with ⟨r, z⟩ | z
  · rw [lk_ie z]; exact z
  · exfalso
    have : lk_i R C W f x n = 20 := cl_f (fun r y => z ⟨r, y⟩)
    omega
theorem lk_td {R C W : Nat → Nat → Nat} {f x : Nat} (h : lk_t R C W f x < 80) : R (lk_t R C W f x / 20) (lk_t R C W f x % 20) = 1 := by
  rcases Nat.lt_or_ge (lk_i R C W f x (W f x)) 20 with z | z
  · have e : lk_t R C W f x = f * 20 + lk_i R C W f x (W f x) := by unfold lk_t; rw [if_pos z]
    rw [e, show (f * 20 + lk_i R C W f x (W f x)) / 20 = f from by omega, show (f * 20 + lk_i R C W f x (W f x)) % 20 = lk_i R C W f x (W f x) from by omega]
    rcases lk_is z with ⟨y, _⟩ | ⟨y, _⟩
    · exact y.2.1
    · omega
  · have e : lk_t R C W f x = lk_m R C W f (W f x) := by unfold lk_t; rw [if_neg (by omega)]
    rw [e] at h ⊢
    unfold lk_m at h ⊢
    obtain ⟨a, b, c, d⟩ := lq_s (P := lk_a R C W f (W f x)) 20 0
    generalize lq (lk_a R C W f (W f x)) 20 0 = p at a b c d h ⊢
    rcases Nat.lt_or_ge p 20 with y | y
    · have hp := c (by omega)
      have hq := (lk_qs R C W (W f p % 4) (W f x)).2 hp.2
      have h20 := hp.2
      have e : lk_e R C W f (W f x) p = (W f p % 4) * 20 + lk_q R C W (W f p % 4) (W f x) := by unfold lk_e; rw [if_pos y]
      rw [e, show ((W f p % 4) * 20 + lk_q R C W (W f p % 4) (W f x)) / 20 = W f p % 4 from by omega, show ((W f p % 4) * 20 + lk_q R C W (W f p % 4) (W f x)) % 20 = lk_q R C W (W f p % 4) (W f x) from by omega]
      exact hq.1
    · unfold lk_e at h
      rw [if_neg (by omega)] at h
      omega
theorem lw_e {R : Nat → Nat → Nat} {y z : Nat} (hy : y ≤ 80) (hz : z ≤ 80) (h1 : y < 80 → R (y / 20) (y % 20) = 1) (h2 : z < 80 → R (z / 20) (z % 20) = 1) (h : lk_w R y = lk_w R z) : y = z := by
  have c1 := cn_le (fun t => R (y / 20) t = 1) (y % 20)
  have c2 := cn_le (fun t => R (z / 20) t = 1) (z % 20)
  unfold lk_w at h
  rcases Nat.lt_or_ge y 80 with a | a
  · rw [if_pos a] at h
    rcases Nat.lt_or_ge z 80 with b | b
    · rw [if_pos b] at h
      have e := (nI_eq (by omega) (by omega)).mp h
      have ef : y / 20 = z / 20 := by omega
      have p1 : lk_p R (y / 20) 1 (nI (cn (fun t => R (y / 20) t = 1) (y % 20))) (y % 20) := ⟨by omega, h1 a, rfl⟩
      have p2 : lk_p R (y / 20) 1 (nI (cn (fun t => R (y / 20) t = 1) (y % 20))) (z % 20) := ⟨by omega, by rw [ef]; exact h2 b, by rw [ef] at e ⊢; exact congrArg nI (by omega)⟩
      have := lk_pu p1 p2
      omega
    · rw [if_neg (by omega)] at h
      have := nI_pos' (n := y / 20 * 32 + cn (fun t => R (y / 20) t = 1) (y % 20)) (by omega)
      rw [h] at this
      exact absurd this (by decide)
  · rw [if_neg (by omega)] at h
    rcases Nat.lt_or_ge z 80 with b | b
    · rw [if_pos b] at h
      have := nI_pos' (n := z / 20 * 32 + cn (fun t => R (z / 20) t = 1) (z % 20)) (by omega)
      rw [← h] at this
      exact absurd this (by decide)
    · omega
/-- the tokens that a renaming of the definition at e names -/
def rn_s (R C W : Nat → Nat → Nat) (e y : Nat) : Prop := y = e ∨ (R (y / 20) (y % 20) = 2 ∧ lk_t R C W (y / 20) (y % 20) = e)
noncomputable def rn_V (R C W : Nat → Nat → Nat) (V : Nat → Nat) (e n y : Nat) : Nat := @ite Nat (rn_s R C W e y) (Classical.propDecidable _) n (V y)
theorem rn_t {R C W : Nat → Nat → Nat} {V : Nat → Nat} {e n y : Nat} (h : rn_s R C W e y) : rn_V R C W V e n y = n := if_pos h
theorem rn_f {R C W : Nat → Nat → Nat} {V : Nat → Nat} {e n y : Nat} (h : ¬ rn_s R C W e y) : rn_V R C W V e n y = V y := if_neg h
theorem rn_ok {R C W : Nat → Nat → Nat} {L K V : Nat → Nat} {e n : Nat} (hT : tx_ok L K V) (hn : n < 16) : tx_ok L K (rn_V R C W V e n) := by
  refine ⟨hT.1, fun y hy => ⟨(hT.2 y hy).1, ?_⟩⟩
  rcases Classical.em (rn_s R C W e y) with z | z
  · rw [rn_t z]; exact hn
  · rw [rn_f z]; exact (hT.2 y hy).2
def rn_c (R C W W' : Nat → Nat → Nat) (f : Nat) : Prop := (∀ y, y < 80 → R (y / 20) (y % 20) = 2 → lk_t R C W' (y / 20) (y % 20) = lk_t R C W (y / 20) (y % 20)) ∧ cn (lk_u R C W' f) 20 = cn (lk_u R C W f) 20
noncomputable def xr_b (R C W : Nat → Nat → Nat) (y : Nat) : Int32 := if R (y / 20) (y % 20) = 2 then pl_o (lk_t R C W (y / 20) (y % 20)) else -1
theorem xr_e {R C W : Nat → Nat → Nat} {e y : Nat} (he : e < 80) (hy : y < 80) : (xr_b R C W y = nI e) ↔ (R (y / 20) (y % 20) = 2 ∧ lk_t R C W (y / 20) (y % 20) = e) := by
  unfold xr_b
  split
  · next h =>
    unfold pl_o
    split
    · next h2 =>
      rw [nI_eq (by omega) (by omega)]
      exact ⟨fun z => ⟨h, z⟩, fun z => z.2⟩
    · next h2 => exact ⟨fun z => absurd z.symm (pl_n he), fun z => by omega⟩
  · next h => exact ⟨fun z => absurd z.symm (pl_n he), fun z => absurd z.1 h⟩
theorem pl_oi {y z : Nat} (hy : y ≤ 80) (hz : z ≤ 80) (h : pl_o y = pl_o z) : y = z := by
  unfold pl_o at h
  rcases Nat.lt_or_ge y 80 with a | a
  · rw [if_pos a] at h
    rcases Nat.lt_or_ge z 80 with b | b
    · rw [if_pos b] at h
      exact (nI_eq (by omega) (by omega)).mp h
    · rw [if_neg (by omega)] at h
      exact absurd h (pl_n a)
  · rw [if_neg (by omega)] at h
    rcases Nat.lt_or_ge z 80 with b | b
    · rw [if_pos b] at h
      exact absurd h.symm (pl_n b)
    · omega
/-! X's side -/
section
variable {f_built f_productionCount f_depth : Int32} {a_ruleOf a_marked a_symbolCount a_symbols a_roles a_derives a_first a_follow a_textLength a_kindAt a_valueAt a_failsAt a_expectedAt a_roleAt a_scopeAt a_openProduction a_openNext a_openStart a_targetBefore : Nat → Int32} {R C W : Nat → Nat → Nat}
theorem xr_tp (hl : xl_ok R C W a_roleAt a_scopeAt a_valueAt) {y : Nat} (hy : y < 80) (post : Int32 → Prop) (h : post (xr_b R C W y)) : wpX_targetPlace post (f_built, f_productionCount, f_depth, a_ruleOf, a_marked, a_symbolCount, a_symbols, a_roles, a_derives, a_first, a_follow, a_textLength, a_kindAt, a_valueAt, a_failsAt, a_expectedAt, a_roleAt, a_scopeAt, a_openProduction, a_openNext, a_openStart, a_targetBefore) (nI y) := by
  have ey : y / 20 * 20 + y % 20 = y := by omega
  have tp := xl_tp (f_built := f_built) (f_productionCount := f_productionCount) (f_depth := f_depth) (a_ruleOf := a_ruleOf) (a_marked := a_marked) (a_symbolCount := a_symbolCount) (a_symbols := a_symbols) (a_roles := a_roles) (a_derives := a_derives) (a_first := a_first) (a_follow := a_follow) (a_textLength := a_textLength) (a_kindAt := a_kindAt) (a_valueAt := a_valueAt) (a_failsAt := a_failsAt) (a_expectedAt := a_expectedAt) (a_roleAt := a_roleAt) (a_scopeAt := a_scopeAt) (a_openProduction := a_openProduction) (a_openNext := a_openNext) (a_openStart := a_openStart) (a_targetBefore := a_targetBefore) hl (f := y / 20) (x := y % 20) (by omega) (by omega) post
  rw [ey] at tp
  unfold xr_b at h
  exact tp (fun z => by rw [if_neg z] at h; exact h) (fun z => by rw [if_pos z] at h; exact h)
theorem xr_k2 (hl : xl_ok R C W a_roleAt a_scopeAt a_valueAt) (post : SX → Prop) (hP : ∀ TB, (∀ y, y < 80 → TB y = xr_b R C W y) → post (f_built, f_productionCount, f_depth, a_ruleOf, a_marked, a_symbolCount, a_symbols, a_roles, a_derives, a_first, a_follow, a_textLength, a_kindAt, a_valueAt, a_failsAt, a_expectedAt, a_roleAt, a_scopeAt, a_openProduction, a_openNext, a_openStart, TB)) :
    ∀ d y TB, y + d = 80 → (∀ z, z < y → TB z = xr_b R C W z) → wX_keepTargets_2 post f_built f_productionCount f_depth (d + 1) (nI y) a_ruleOf a_marked a_symbolCount a_symbols a_roles a_derives a_first a_follow a_textLength a_kindAt a_valueAt a_failsAt a_expectedAt a_roleAt a_scopeAt a_openProduction a_openNext a_openStart TB := by
  intro d
  induction d with
  | zero =>
    intro y TB hy hI
    rw [wX_keepTargets_2]
    dsimp only
    exact br_t (nI_le (a := 80) (by omega) (by omega)) (hP TB (fun z hz => hI z (by omega)))
  | succ d ih =>
    intro y TB hy hI
    have cY : (nI y).toNatClampNeg = y := nI_clamp (by omega)
    rw [wX_keepTargets_2]
    dsimp only
    rw [cY]
    refine br_f (nI_ge (b := 80) (by omega) (by omega)) (xr_tp hl (by omega) _ ⟨vp_in_nI (by omega) (by omega), nm_e (nm_r (nI_1 y) (ih (y + 1) _ (by omega) (fun z hz => ?_)))⟩)
    rcases Classical.em (z = y) with e | e
    · subst e; exact pk_us
    · exact (pk_un e).trans (hI z (by omega))
theorem xr_g9 {e n : Nat} {VA0 : Nat → Int32} (he : e < 80) (post : SX → Prop) (hP : ∀ VA, (∀ y, y < 80 → (y = e ∨ a_targetBefore y = nI e → VA y = nI n) ∧ (¬ (y = e ∨ a_targetBefore y = nI e) → VA y = VA0 y)) → post (f_built, f_productionCount, f_depth, a_ruleOf, a_marked, a_symbolCount, a_symbols, a_roles, a_derives, a_first, a_follow, a_textLength, a_kindAt, VA, a_failsAt, a_expectedAt, a_roleAt, a_scopeAt, a_openProduction, a_openNext, a_openStart, a_targetBefore)) :
    ∀ d y VA, y + d = 80 → (∀ z, z < 80 → (z = e ∨ (z < y ∧ a_targetBefore z = nI e) → VA z = nI n) ∧ (¬ (z = e ∨ (z < y ∧ a_targetBefore z = nI e)) → VA z = VA0 z)) → wX_giveName_9 post (nI e) (nI n) f_built f_productionCount f_depth (d + 1) (nI y) a_ruleOf a_marked a_symbolCount a_symbols a_roles a_derives a_first a_follow a_textLength a_kindAt VA a_failsAt a_expectedAt a_roleAt a_scopeAt a_openProduction a_openNext a_openStart a_targetBefore := by
  intro d
  induction d with
  | zero =>
    intro y VA hy hI
    rw [wX_giveName_9]
    dsimp only
    refine br_t (nI_le (a := 80) (by omega) (by omega)) (hP VA (fun z hz => ⟨fun q => (hI z hz).1 (q.elim Or.inl (fun t => Or.inr ⟨by omega, t⟩)), fun q => (hI z hz).2 (fun t => q (t.elim Or.inl (fun s => Or.inr s.2)))⟩))
  | succ d ih =>
    intro y VA hy hI
    have cY : (nI y).toNatClampNeg = y := nI_clamp (by omega)
    have iY : vp_in (nI y) 80 := vp_in_nI (by omega) (by omega)
    rw [wX_giveName_9]
    dsimp only
    rw [cY]
    refine br_f (nI_ge (b := 80) (by omega) (by omega)) ⟨iY, br_c (fun h => ⟨iY, nm_e (nm_r (nI_1 y) (ih (y + 1) _ (by omega) (fun z hz => ?_)))⟩) (fun h => nm_r (nI_1 y) (ih (y + 1) _ (by omega) (fun z hz => ?_)))⟩
    · rcases Classical.em (z = y) with q | q
      · subst q
        exact ⟨fun _ => pk_us, fun t => absurd (Or.inr ⟨by omega, h⟩) t⟩
      · refine ⟨fun t => (pk_un q).trans ((hI z hz).1 (t.elim Or.inl (fun s => Or.inr ⟨by omega, s.2⟩))), fun t => (pk_un q).trans ((hI z hz).2 (fun s => t (s.elim Or.inl (fun r => Or.inr ⟨by omega, r.2⟩))))⟩
    · refine ⟨fun t => (hI z hz).1 (t.elim Or.inl (fun s => Or.inr ⟨?_, s.2⟩)), fun t => (hI z hz).2 (fun s => t (s.elim Or.inl (fun r => Or.inr ⟨by omega, r.2⟩)))⟩
      rcases Classical.em (z = y) with q | q
      · subst q; exact absurd s.2 h
      · omega
theorem xr_give {e n : Nat} (he : e < 80) (post : SX → Prop) (hP : ∀ VA, (∀ y, y < 80 → (y = e ∨ a_targetBefore y = nI e → VA y = nI n) ∧ (¬ (y = e ∨ a_targetBefore y = nI e) → VA y = a_valueAt y)) → post (f_built, f_productionCount, f_depth, a_ruleOf, a_marked, a_symbolCount, a_symbols, a_roles, a_derives, a_first, a_follow, a_textLength, a_kindAt, VA, a_failsAt, a_expectedAt, a_roleAt, a_scopeAt, a_openProduction, a_openNext, a_openStart, a_targetBefore)) : wpX_giveName post (f_built, f_productionCount, f_depth, a_ruleOf, a_marked, a_symbolCount, a_symbols, a_roles, a_derives, a_first, a_follow, a_textLength, a_kindAt, a_valueAt, a_failsAt, a_expectedAt, a_roleAt, a_scopeAt, a_openProduction, a_openNext, a_openStart, a_targetBefore) (nI e) (nI n) := by
  have cE : (nI e).toNatClampNeg = e := nI_clamp (by omega)
  unfold wpX_giveName
  dsimp only
  rw [cE]
  refine ⟨vp_in_nI he (by omega), nm_e ⟨80 + 1, xr_g9 he post hP 80 0 _ (by omega) (fun z hz => ?_)⟩⟩
  rcases Classical.em (z = e) with q | q
  · subst q
    exact ⟨fun _ => pk_us, fun t => absurd (Or.inl rfl) t⟩
  · exact ⟨fun t => t.elim (fun s => absurd s q) (fun s => by omega), fun _ => pk_un q⟩
theorem xr_a2 (hl : xl_ok R C W a_roleAt a_scopeAt a_valueAt) (post : Int32 → Prop) (h1 : (∀ y, y < 80 → xr_b R C W y = a_targetBefore y) → post 1) (h0 : (¬ ∀ y, y < 80 → xr_b R C W y = a_targetBefore y) → post 0) :
    ∀ d y, y + d = 80 → (∀ z, z < y → xr_b R C W z = a_targetBefore z) → wX_targetsAreAsKept_2 post f_built f_productionCount f_depth a_ruleOf a_marked a_symbolCount a_symbols a_roles a_derives a_first a_follow a_textLength a_kindAt a_valueAt a_failsAt a_expectedAt a_roleAt a_scopeAt a_openProduction a_openNext a_openStart a_targetBefore (d + 1) (nI y) := by
  intro d
  induction d with
  | zero =>
    intro y hy hI
    rw [wX_targetsAreAsKept_2]
    dsimp only
    exact br_t (nI_le (a := 80) (by omega) (by omega)) (h1 (fun z hz => hI z (by omega)))
  | succ d ih =>
    intro y hy hI
    have cY : (nI y).toNatClampNeg = y := nI_clamp (by omega)
    rw [wX_targetsAreAsKept_2]
    dsimp only
    rw [cY]
    refine br_f (nI_ge (b := 80) (by omega) (by omega)) (xr_tp hl (by omega) _ ⟨vp_in_nI (by omega) (by omega), br_c (fun h => nm_r (nI_1 y) (ih (y + 1) (by omega) (fun z hz => ?_))) (fun h => h0 (fun z => h (z y (by omega))))⟩)
    rcases Classical.em (z = y) with q | q
    · subst q; exact h
    · exact hI z (by omega)
end
section
variable {f_built f_productionCount f_depth : Int32} {a_ruleOf a_marked a_symbolCount a_symbols a_roles a_derives a_first a_follow a_textLength a_kindAt a_valueAt a_failsAt a_expectedAt a_roleAt a_scopeAt a_openProduction a_openNext a_openStart a_targetBefore : Nat → Int32} {G : gm_G} {L K V : Nat → Nat}
theorem xm_rename (hG : gm_gd G) (hT : tx_ok L K V) (hX : rx_R true G L K V (f_built, f_productionCount, f_depth, a_ruleOf, a_marked, a_symbolCount, a_symbols, a_roles, a_derives, a_first, a_follow, a_textLength, a_kindAt, a_valueAt, a_failsAt, a_expectedAt, a_roleAt, a_scopeAt, a_openProduction, a_openNext, a_openStart, a_targetBefore)) {v1 v2 v3 : Int32} (post : Int32 → SX → Prop) (h0 : (¬ ∃ f x n, f < 4 ∧ v1 = nI f ∧ lk_p (pl_r G L K) f 1 v2 x ∧ n < 16 ∧ v3 = nI n) → post 0 (f_built, f_productionCount, f_depth, a_ruleOf, a_marked, a_symbolCount, a_symbols, a_roles, a_derives, a_first, a_follow, a_textLength, a_kindAt, a_valueAt, a_failsAt, a_expectedAt, a_roleAt, a_scopeAt, a_openProduction, a_openNext, a_openStart, a_targetBefore))
    (h1 : ∀ f x n, f < 4 → v1 = nI f → lk_p (pl_r G L K) f 1 v2 x → n < 16 → v3 = nI n → (rn_c (pl_r G L K) (pl_c G L K) (pl_w V) (pl_w (rn_V (pl_r G L K) (pl_c G L K) (pl_w V) V (f * 20 + x) n)) f → ∀ u, rx_R true G L K (rn_V (pl_r G L K) (pl_c G L K) (pl_w V) V (f * 20 + x) n) u → post 1 u) ∧ (¬ rn_c (pl_r G L K) (pl_c G L K) (pl_w V) (pl_w (rn_V (pl_r G L K) (pl_c G L K) (pl_w V) V (f * 20 + x) n)) f → ∀ u, rx_R true G L K (rn_V (pl_r G L K) (pl_c G L K) (pl_w V) (rn_V (pl_r G L K) (pl_c G L K) (pl_w V) V (f * 20 + x) n) (f * 20 + x) (V (f * 20 + x))) u → post 0 u)) : wpX_rename post (f_built, f_productionCount, f_depth, a_ruleOf, a_marked, a_symbolCount, a_symbols, a_roles, a_derives, a_first, a_follow, a_textLength, a_kindAt, a_valueAt, a_failsAt, a_expectedAt, a_roleAt, a_scopeAt, a_openProduction, a_openNext, a_openStart, a_targetBefore) v1 v2 v3 := by
  obtain ⟨x1, x2, x3, x4, x5⟩ := hX
  obtain ⟨b1, b2⟩ := x4 rfl
  have hl := xl_t hG hT x3 b2
  unfold wpX_rename
  dsimp only
  refine xl_place (r := 1) hl (by omega) _ (fun hn => br_t rfl (h0 (fun ⟨f, x, n, a, b, c, _⟩ => hn ⟨f, x, a, b, c⟩))) (fun f x hf e hpl => br_f (pl_n (by have := hpl.1; omega)) ?_)
  have hx := hpl.1
  refine br_c (fun h => h0 (fun ⟨_, _, n, _, _, _, a, b⟩ => ?_)) (fun h => br_c (fun h' => ?_) (fun h' => h0 (fun ⟨_, _, n, _, _, _, a, b⟩ => ?_)))
  · subst b; exact nI_pos (by omega) h
  · obtain ⟨n, hn, e3⟩ := ba_ix (n := 16) (by omega) h (ba_lp h')
    obtain ⟨k1, k0⟩ := h1 f x n hf e hpl hn e3
    subst e e3
    have cE : (nI (f * 20 + x)).toNatClampNeg = f * 20 + x := nI_clamp (by omega)
    have he : f * 20 + x < 80 := by omega
    rw [cE]
    refine ⟨vp_in_nI he (by omega), nm_r (x3.2 _ he).2 (xl_dup hl _ (fun hn => absurd ⟨f, hf, rfl⟩ hn) (fun f0 _ e0 => ?_))⟩
    have ef : f0 = f := (nI_eq (by omega) (by omega)).mp e0.symm
    subst ef
    refine ⟨80 + 1, xr_k2 hl _ (fun TB hTB => ?_) 80 0 a_targetBefore (by omega) (fun z h => by omega)⟩
    dsimp only
    refine xr_give he _ (fun VA hVA => ?_)
    dsimp only
    -- the values after the writes
    have sel : ∀ y, y < 80 → ((y = f0 * 20 + x ∨ TB y = nI (f0 * 20 + x)) ↔ rn_s (pl_r G L K) (pl_c G L K) (pl_w V) (f0 * 20 + x) y) := fun y hy => by
      rw [hTB y hy, xr_e he hy]
      exact Iff.rfl
    have hr' : rx_t L K (rn_V (pl_r G L K) (pl_c G L K) (pl_w V) V (f0 * 20 + x) n) a_textLength a_kindAt VA := ⟨x3.1, fun y hy => ⟨(x3.2 y hy).1, by
      rcases Classical.em (rn_s (pl_r G L K) (pl_c G L K) (pl_w V) (f0 * 20 + x) y) with z | z
      · rw [rn_t z]; exact (hVA y hy).1 ((sel y hy).mpr z)
      · rw [rn_f z, (hVA y hy).2 (fun t => z ((sel y hy).mp t))]; exact (x3.2 y hy).2⟩⟩
    have hT' := rn_ok (R := pl_r G L K) (C := pl_c G L K) (W := pl_w V) (e := f0 * 20 + x) (n := n) hT hn
    have hl' := xl_t hG hT' hr' b2
    have v16 := (hT.2 _ he).2
    -- the way back
    have back : ¬ rn_c (pl_r G L K) (pl_c G L K) (pl_w V) (pl_w (rn_V (pl_r G L K) (pl_c G L K) (pl_w V) V (f0 * 20 + x) n)) f0 → wX_rename_73 post (nI (f0 * 20 + x)) (nI (V (f0 * 20 + x))) f_built f_productionCount f_depth a_ruleOf a_marked a_symbolCount a_symbols a_roles a_derives a_first a_follow a_textLength a_kindAt VA a_failsAt a_expectedAt a_roleAt a_scopeAt a_openProduction a_openNext a_openStart TB := fun hno => by
      unfold wX_rename_73
      refine xr_give he _ (fun VB hVB => k0 hno _ ⟨x1, x2, ⟨x3.1, fun y hy => ⟨(x3.2 y hy).1, ?_⟩⟩, x4, x5⟩)
      rcases Classical.em (rn_s (pl_r G L K) (pl_c G L K) (pl_w V) (f0 * 20 + x) y) with z | z
      · rw [rn_t z]; exact (hVB y hy).1 ((sel y hy).mpr z)
      · rw [rn_f z, (hVB y hy).2 (fun t => z ((sel y hy).mp t))]; exact (hr'.2 y hy).2
    have tsame : (∀ y, y < 80 → xr_b (pl_r G L K) (pl_c G L K) (pl_w (rn_V (pl_r G L K) (pl_c G L K) (pl_w V) V (f0 * 20 + x) n)) y = TB y) ↔ (∀ y, y < 80 → pl_r G L K (y / 20) (y % 20) = 2 → lk_t (pl_r G L K) (pl_c G L K) (pl_w (rn_V (pl_r G L K) (pl_c G L K) (pl_w V) V (f0 * 20 + x) n)) (y / 20) (y % 20) = lk_t (pl_r G L K) (pl_c G L K) (pl_w V) (y / 20) (y % 20)) := by
      constructor
      · intro z y hy h2
        have q := z y hy
        rw [hTB y hy] at q
        unfold xr_b at q
        rw [if_pos h2, if_pos h2] at q
        exact pl_oi (lk_t80 (by omega)) (lk_t80 (by omega)) q
      · intro z y hy
        rw [hTB y hy]
        unfold xr_b
        split
        · next h2 => rw [z y hy h2]
        · rfl
    unfold wpX_targetsAreAsKept
    dsimp only
    refine ⟨80 + 1, xr_a2 hl' _ (fun z => br_f (by decide) (xl_dup hl' _ (fun hn => absurd ⟨f0, hf, rfl⟩ hn) (fun f1 _ e1 => ?_))) (fun z => br_t rfl (back (fun y => z (tsame.mpr y.1)))) 80 0 (by omega) (fun z h => by omega)⟩
    have ef : f1 = f0 := (nI_eq (by omega) (by omega)).mp e1.symm
    subst ef
    have l1 := cn_le (lk_u (pl_r G L K) (pl_c G L K) (pl_w V) f1) 20
    have l2 := cn_le (lk_u (pl_r G L K) (pl_c G L K) (pl_w (rn_V (pl_r G L K) (pl_c G L K) (pl_w V) V (f1 * 20 + x) n)) f1) 20
    refine ek_if (nI_eq (by omega) (by omega)) (fun q => k1 ⟨tsame.mp z, q⟩ _ ⟨x1, x2, hr', x4, x5⟩) (fun q => back (fun y => q y.2))
  · subst b; exact h' (nI_lt (b := 16) a (by omega))
end
