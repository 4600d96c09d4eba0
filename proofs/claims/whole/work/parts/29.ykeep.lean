/-! rename: Y keeps the targets -/
section
variable {f_np f_built f_some f_empty f_wn f_nt : Int32} {a_pRule a_pScope a_pLen a_sym a_role a_first a_follow a_kind a_val a_len a_word a_reach a_beyond a_way a_known a_bad a_part a_scopes a_inner a_tRule a_tFrom a_tTo a_before : Nat → Int32} {G : gm_G} {L K V : Nat → Nat} {B : Nat → Int32} {S : Nat → Prop}
theorem yr_qb {B' : Nat → Int32} (h : ry_Q G L K V B S (f_np, f_built, f_some, f_empty, f_wn, f_nt, a_pRule, a_pScope, a_pLen, a_sym, a_role, a_first, a_follow, a_kind, a_val, a_len, a_word, a_reach, a_beyond, a_way, a_known, a_bad, a_part, a_scopes, a_inner, a_tRule, a_tFrom, a_tTo, a_before)) : ry_Q G L K V B' S (f_np, f_built, f_some, f_empty, f_wn, f_nt, a_pRule, a_pScope, a_pLen, a_sym, a_role, a_first, a_follow, a_kind, a_val, a_len, a_word, a_reach, a_beyond, a_way, a_known, a_bad, a_part, a_scopes, a_inner, a_tRule, a_tFrom, a_tTo, B') := by
  obtain ⟨⟨h1, h2, h3, h4⟩, _, h6⟩ := h
  exact ⟨⟨h1, h2, h3, h4⟩, rfl, fun g hg hs => ⟨(h6 g hg hs).1, (h6 g hg hs).2⟩⟩
theorem yr_qv {V' : Nat → Nat} {VA : Nat → Int32} (hr : rx_t L K V' a_len a_kind VA) (h : ry_Q G L K V B S (f_np, f_built, f_some, f_empty, f_wn, f_nt, a_pRule, a_pScope, a_pLen, a_sym, a_role, a_first, a_follow, a_kind, a_val, a_len, a_word, a_reach, a_beyond, a_way, a_known, a_bad, a_part, a_scopes, a_inner, a_tRule, a_tFrom, a_tTo, a_before)) : ry_Q G L K V' B S (f_np, f_built, f_some, f_empty, f_wn, f_nt, a_pRule, a_pScope, a_pLen, a_sym, a_role, a_first, a_follow, a_kind, VA, a_len, a_word, a_reach, a_beyond, a_way, a_known, a_bad, a_part, a_scopes, a_inner, a_tRule, a_tFrom, a_tTo, a_before) := by
  obtain ⟨⟨h1, h2, h3, h4⟩, h5, h6⟩ := h
  exact ⟨⟨h1, h2, hr, h4⟩, h5, fun g hg hs => ⟨(h6 g hg hs).1, (h6 g hg hs).2⟩⟩
theorem yr_bB (h : ry_Q G L K V B S (f_np, f_built, f_some, f_empty, f_wn, f_nt, a_pRule, a_pScope, a_pLen, a_sym, a_role, a_first, a_follow, a_kind, a_val, a_len, a_word, a_reach, a_beyond, a_way, a_known, a_bad, a_part, a_scopes, a_inner, a_tRule, a_tFrom, a_tTo, a_before)) : a_before = B := h.2.1
end
section
variable {G : gm_G} {L K V : Nat → Nat}
/-- all targets are kept -/
theorem yr_k69 (hG : gm_gd G) (hT : tx_ok L K V) (post : Int32 → SY → Prop) (x1 x2 x3 x4 x5 x6 : Int32)
    (hP : ∀ v B, ry_Q G L K V B (fun _ => True) v → (∀ z, z < 80 → B z = yr_b (pl_r G L K) (pl_c G L K) (pl_w V) z) → match v with | (f_np, f_built, f_some, f_empty, f_wn, f_nt, a_pRule, a_pScope, a_pLen, a_sym, a_role, a_first, a_follow, a_kind, a_val, a_len, a_word, a_reach, a_beyond, a_way, a_known, a_bad, a_part, a_scopes, a_inner, a_tRule, a_tFrom, a_tTo, a_before) => wY_rename_69 post x1 x2 x3 x4 x5 x6 (0 + 1) (nI 80) f_np f_built f_some f_empty f_wn f_nt a_pRule a_pScope a_pLen a_sym a_role a_first a_follow a_kind a_val a_len a_word a_reach a_beyond a_way a_known a_bad a_part a_scopes a_inner a_tRule a_tFrom a_tTo a_before) :
    ∀ d y v B, y + d = 80 → ry_Q G L K V B (fun g => g * 20 < y) v → (∀ z, z < y → B z = yr_b (pl_r G L K) (pl_c G L K) (pl_w V) z) → match v with | (f_np, f_built, f_some, f_empty, f_wn, f_nt, a_pRule, a_pScope, a_pLen, a_sym, a_role, a_first, a_follow, a_kind, a_val, a_len, a_word, a_reach, a_beyond, a_way, a_known, a_bad, a_part, a_scopes, a_inner, a_tRule, a_tFrom, a_tTo, a_before) => wY_rename_69 post x1 x2 x3 x4 x5 x6 (d + 1) (nI y) f_np f_built f_some f_empty f_wn f_nt a_pRule a_pScope a_pLen a_sym a_role a_first a_follow a_kind a_val a_len a_word a_reach a_beyond a_way a_known a_bad a_part a_scopes a_inner a_tRule a_tFrom a_tTo a_before := by
  intro d
  induction d with
  | zero =>
    intro y v B hy hv hB
    have e : y = 80 := by omega
    subst e
    exact hP v B ⟨hv.1, hv.2.1, fun g hg _ => hv.2.2 g hg (by omega)⟩ hB
  | succ d ih =>
    intro y v B hy hv hB
    have hy80 : y < 80 := by omega
    have hf : y / 20 < 4 := by omega
    have hx : y % 20 < 20 := by omega
    have cY : (nI y).toNatClampNeg = y := nI_clamp (by omega)
    have iY : vp_in (nI y) 80 := vp_in_nI (by omega) (by omega)
    have n20 : ¬ (20 : Int32) = 0 := by decide
    have t80 := lk_t80 (R := pl_r G L K) (C := pl_c G L K) (W := pl_w V) (f := y / 20) (x := y % 20) hf
    -- the next turn, from a state with its new entry
    have nx : ∀ v', ry_Q G L K V B (fun g => g * 20 < y + 1) v' → match v' with | (f_np, f_built, f_some, f_empty, f_wn, f_nt, a_pRule, a_pScope, a_pLen, a_sym, a_role, a_first, a_follow, a_kind, a_val, a_len, a_word, a_reach, a_beyond, a_way, a_known, a_bad, a_part, a_scopes, a_inner, a_tRule, a_tFrom, a_tTo, a_before) => wY_rename_69 post x1 x2 x3 x4 x5 x6 (d + 1) (nI (y + 1)) f_np f_built f_some f_empty f_wn f_nt a_pRule a_pScope a_pLen a_sym a_role a_first a_follow a_kind a_val a_len a_word a_reach a_beyond a_way a_known a_bad a_part a_scopes a_inner a_tRule a_tFrom a_tTo (upd a_before y (yr_b (pl_r G L K) (pl_c G L K) (pl_w V) y)) := by
      intro v' hv'
      have q := ih (y + 1)
      obtain ⟨f_np, f_built, f_some, f_empty, f_wn, f_nt, a_pRule, a_pScope, a_pLen, a_sym, a_role, a_first, a_follow, a_kind, a_val, a_len, a_word, a_reach, a_beyond, a_way, a_known, a_bad, a_part, a_scopes, a_inner, a_tRule, a_tFrom, a_tTo, a_before⟩ := v'
      refine q (f_np, f_built, f_some, f_empty, f_wn, f_nt, a_pRule, a_pScope, a_pLen, a_sym, a_role, a_first, a_follow, a_kind, a_val, a_len, a_word, a_reach, a_beyond, a_way, a_known, a_bad, a_part, a_scopes, a_inner, a_tRule, a_tFrom, a_tTo, upd a_before y (yr_b (pl_r G L K) (pl_c G L K) (pl_w V) y)) (upd a_before y (yr_b (pl_r G L K) (pl_c G L K) (pl_w V) y)) (by omega) (yr_qb hv') (fun z hz => ?_)
      rcases Classical.em (z = y) with e | e
      · subst e; exact pk_us
      · rw [pk_un e]
        have eB : a_before = B := yr_bB hv'
        rw [eB]
        exact hB z (by omega)
    have more : ∀ v', ry_Q G L K V B (fun g => g * 20 < y) v' → ry_K G L K (y / 20) v' → ry_Q G L K V B (fun g => g * 20 < y + 1) v' := fun v' h1 h2 => ⟨h1.1, h1.2.1, fun g hg hs => by
      rcases Nat.lt_or_ge (g * 20) y with z | z
      · exact h1.2.2 g hg z
      · have e : g = y / 20 := by omega
        subst e; exact h2⟩
    obtain ⟨f_np, f_built, f_some, f_empty, f_wn, f_nt, a_pRule, a_pScope, a_pLen, a_sym, a_role, a_first, a_follow, a_kind, a_val, a_len, a_word, a_reach, a_beyond, a_way, a_known, a_bad, a_part, a_scopes, a_inner, a_tRule, a_tFrom, a_tTo, a_before⟩ := v
    dsimp only
    rw [wY_rename_69]
    refine br_f (nI_ge (b := 80) (by omega) (by omega)) ⟨n20, n20, ?_⟩
    rw [ba_md hy80, ba_dv hy80]
    refine yl_is (r := 2) hG hT hv hf hx ⟨by omega, by omega⟩ _ (fun e v' hv' hk' => ?_) (fun e v' hv' hk' => ?_)
    · obtain ⟨hd, _⟩ := pl_t (G := G) (L := L) (K := K) hG (f := y / 20) (x := y % 20) (by omega)
      have hm := more v' hv' hk'
      obtain ⟨f_np, f_built, f_some, f_empty, f_wn, f_nt, a_pRule, a_pScope, a_pLen, a_sym, a_role, a_first, a_follow, a_kind, a_val, a_len, a_word, a_reach, a_beyond, a_way, a_known, a_bad, a_part, a_scopes, a_inner, a_tRule, a_tFrom, a_tTo, a_before⟩ := v'
      refine br_f (by decide) ⟨n20, n20, yl_link hG hT hm hf hx hk' hd _ (fun v2 hv2 => ?_)⟩
      have q := nx v2 hv2
      obtain ⟨f_np, f_built, f_some, f_empty, f_wn, f_nt, a_pRule, a_pScope, a_pLen, a_sym, a_role, a_first, a_follow, a_kind, a_val, a_len, a_word, a_reach, a_beyond, a_way, a_known, a_bad, a_part, a_scopes, a_inner, a_tRule, a_tFrom, a_tTo, a_before⟩ := v2
      dsimp only at q ⊢
      rw [cY, lw_sh t80]
      unfold yr_b at q
      rw [if_pos e] at q
      exact ⟨iY, nm_e (nm_r (nI_1 y) q)⟩
    · have q := nx v' (more v' hv' hk')
      obtain ⟨f_np, f_built, f_some, f_empty, f_wn, f_nt, a_pRule, a_pScope, a_pLen, a_sym, a_role, a_first, a_follow, a_kind, a_val, a_len, a_word, a_reach, a_beyond, a_way, a_known, a_bad, a_part, a_scopes, a_inner, a_tRule, a_tFrom, a_tTo, a_before⟩ := v'
      dsimp only at q ⊢
      rw [cY]
      unfold yr_b at q
      rw [if_neg e] at q
      exact br_t rfl ⟨iY, nm_r (congrArg _ (by rw [vp_nar_short]; decide)) (nm_r (nI_1 y) q)⟩
end
