/-! rename: Y's side -/
noncomputable def yr_b (R C W : Nat → Nat → Nat) (y : Nat) : Int32 := if R (y / 20) (y % 20) = 2 then lk_w R (lk_t R C W (y / 20) (y % 20)) else -2
theorem ba_n16 : ∀ k, k < 700 → (nI k).toInt16.toInt32 = nI k := by decide +kernel
theorem lw_sh {R : Nat → Nat → Nat} {y : Nat} (hy : y ≤ 80) : vp_nar .short (lk_w R y).toInt16.toInt32 = lk_w R y := by
  have c1 := cn_le (fun t => R (y / 20) t = 1) (y % 20)
  rw [vp_nar_short]
  unfold lk_w
  split
  · rw [ba_n16 _ (by omega), ba_n16 _ (by omega)]
  · decide
theorem lw_g {R : Nat → Nat → Nat} {y : Nat} (hy : y ≤ 80) : ¬ lk_w R y ≤ -2 := by
  have c1 := cn_le (fun t => R (y / 20) t = 1) (y % 20)
  unfold lk_w
  split
  · intro z
    have := Int32.le_trans (nI_pos' (n := y / 20 * 32 + cn (fun t => R (y / 20) t = 1) (y % 20)) (by omega)) z
    exact absurd this (by decide)
  · decide
theorem ba_dv {y : Nat} (hy : y < 80) : nI y / 20 = nI (y / 20) := by rw [show (20 : Int32) = nI 20 from rfl, pk_div (by omega) (by omega) (by omega)]
theorem ba_md {y : Nat} (hy : y < 80) : nI y - nI y / 20 * 20 = nI (y % 20) := by rw [show (20 : Int32) = nI 20 from rfl, pk_rem (by omega) (by omega) (by omega)]
section
variable {f_np f_built f_some f_empty f_wn f_nt : Int32} {a_pRule a_pScope a_pLen a_sym a_role a_first a_follow a_kind a_val a_len a_word a_reach a_beyond a_way a_known a_bad a_part a_scopes a_inner a_tRule a_tFrom a_tTo a_before : Nat → Int32}
theorem yr_v17 {e n cd : Nat} {f dn : Nat} {VA0 : Nat → Int32} (hn : n < 16) (hcd : cd = f * 32 + dn) (post : SY → Prop) (hP : ∀ VA, (∀ y, y < 80 → (y = e ∨ a_before y = nI cd → VA y = nI n) ∧ (¬ (y = e ∨ a_before y = nI cd) → VA y = VA0 y)) → post (f_np, f_built, f_some, f_empty, f_wn, f_nt, a_pRule, a_pScope, a_pLen, a_sym, a_role, a_first, a_follow, a_kind, VA, a_len, a_word, a_reach, a_beyond, a_way, a_known, a_bad, a_part, a_scopes, a_inner, a_tRule, a_tFrom, a_tTo, a_before)) :
    ∀ d y VA, y + d = 80 → (∀ z, z < 80 → (z = e ∨ (z < y ∧ a_before z = nI cd) → VA z = nI n) ∧ (¬ (z = e ∨ (z < y ∧ a_before z = nI cd)) → VA z = VA0 z)) → wY_revalue_17 post (nI f) (nI dn) (nI n) f_np f_built f_some f_empty f_wn f_nt (d + 1) (nI y) a_pRule a_pScope a_pLen a_sym a_role a_first a_follow a_kind VA a_len a_word a_reach a_beyond a_way a_known a_bad a_part a_scopes a_inner a_tRule a_tFrom a_tTo a_before := by
  intro d
  induction d with
  | zero =>
    intro y VA hy hI
    rw [wY_revalue_17]
    dsimp only
    refine br_t (nI_le (a := 80) (by omega) (by omega)) (hP VA (fun z hz => ⟨fun q => (hI z hz).1 (q.elim Or.inl (fun t => Or.inr ⟨by omega, t⟩)), fun q => (hI z hz).2 (fun t => q (t.elim Or.inl (fun s => Or.inr s.2)))⟩))
  | succ d ih =>
    intro y VA hy hI
    have cY : (nI y).toNatClampNeg = y := nI_clamp (by omega)
    have iY : vp_in (nI y) 80 := vp_in_nI (by omega) (by omega)
    rw [wY_revalue_17]
    dsimp only
    rw [cY, ba_32x, ← hcd, ba_nb n (by omega), ba_vb (k := n) (by omega)]
    refine br_f (nI_ge (b := 80) (by omega) (by omega)) ⟨iY, br_c (fun h => ⟨iY, nm_e (nm_r (nI_1 y) (ih (y + 1) _ (by omega) (fun z hz => ?_)))⟩) (fun h => nm_r (nI_1 y) (ih (y + 1) _ (by omega) (fun z hz => ?_)))⟩
    · rcases Classical.em (z = y) with q | q
      · subst q
        exact ⟨fun _ => pk_us, fun t => absurd (Or.inr ⟨by omega, h⟩) t⟩
      · refine ⟨fun t => (pk_un q).trans ((hI z hz).1 (t.elim Or.inl (fun s => Or.inr ⟨by omega, s.2⟩))), fun t => (pk_un q).trans ((hI z hz).2 (fun s => t (s.elim Or.inl (fun r => Or.inr ⟨by omega, r.2⟩))))⟩
    · refine ⟨fun t => (hI z hz).1 (t.elim Or.inl (fun s => Or.inr ⟨?_, s.2⟩)), fun t => (hI z hz).2 (fun s => t (s.elim Or.inl (fun r => Or.inr ⟨by omega, r.2⟩)))⟩
      rcases Classical.em (z = y) with q | q
      · subst q; exact absurd s.2 h
      · omega
theorem yr_rev {n f x dn : Nat} (hf : f < 4) (hx : x < 20) (hn : n < 16) (post : SY → Prop) (hP : ∀ VA, (∀ y, y < 80 → (y = f * 20 + x ∨ a_before y = nI (f * 32 + dn) → VA y = nI n) ∧ (¬ (y = f * 20 + x ∨ a_before y = nI (f * 32 + dn)) → VA y = a_val y)) → post (f_np, f_built, f_some, f_empty, f_wn, f_nt, a_pRule, a_pScope, a_pLen, a_sym, a_role, a_first, a_follow, a_kind, VA, a_len, a_word, a_reach, a_beyond, a_way, a_known, a_bad, a_part, a_scopes, a_inner, a_tRule, a_tFrom, a_tTo, a_before)) : wpY_revalue post (f_np, f_built, f_some, f_empty, f_wn, f_nt, a_pRule, a_pScope, a_pLen, a_sym, a_role, a_first, a_follow, a_kind, a_val, a_len, a_word, a_reach, a_beyond, a_way, a_known, a_bad, a_part, a_scopes, a_inner, a_tRule, a_tFrom, a_tTo, a_before) (nI f) (nI x) (nI dn) (nI n) := by
  have cE : (nI (f * 20 + x)).toNatClampNeg = f * 20 + x := nI_clamp (by omega)
  unfold wpY_revalue
  dsimp only
  rw [ba_20x, cE, ba_nb n (by omega), ba_vb (k := n) (by omega)]
  refine ⟨vp_in_nI (by omega) (by omega), nm_e ⟨80 + 1, yr_v17 hn rfl post hP 80 0 _ (by omega) (fun z hz => ?_)⟩⟩
  rcases Classical.em (z = f * 20 + x) with q | q
  · subst q
    exact ⟨fun _ => pk_us, fun t => absurd (Or.inl rfl) t⟩
  · exact ⟨fun t => t.elim (fun s => absurd s q) (fun s => by omega), fun _ => pk_un q⟩
end
