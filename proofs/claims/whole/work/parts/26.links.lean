/-! definitions, references, target, duplicates, unresolved -/
theorem cn_z {P : Nat → Prop} : ∀ {N : Nat}, (∀ k, k < N → ¬ P k) → cn P N = 0
  | 0, _ => rfl
  | N + 1, h => by
    rw [cn_s, cn_z (fun k hk => h k (by omega)), b01_f (h N (by omega))]
section
variable {f_built f_productionCount f_depth : Int32} {a_ruleOf a_marked a_symbolCount a_symbols a_roles a_derives a_first a_follow a_textLength a_kindAt a_valueAt a_failsAt a_expectedAt a_roleAt a_scopeAt a_openProduction a_openNext a_openStart a_targetBefore : Nat → Int32} {G : gm_G} {L K V : Nat → Nat}
theorem xl_t (hG : gm_gd G) (hT : tx_ok L K V) (hr : rx_t L K V a_textLength a_kindAt a_valueAt) (hF : ∀ f, f < 4 → rx_f G L K f a_failsAt a_expectedAt a_roleAt a_scopeAt) : xl_ok (pl_r G L K) (pl_c G L K) (pl_w V) a_roleAt a_scopeAt a_valueAt := by
  refine ⟨fun f x hf hx => ⟨(hF f hf).2.2.1 x hx, px_r4 hG tx_wn, (hr.2 _ (by omega)).2, (hT.2 (f * 20 + x) (by omega)).2⟩, fun _ f x hf hx => ⟨(hF f hf).2.2.2 x hx, pl_s hG hT hf⟩⟩
theorem xl_0 (hT : tx_ok L K V) (hr : rx_t L K V a_textLength a_kindAt a_valueAt) (h0 : ∀ x, x < 80 → a_roleAt x = 0) : xl_ok (fun _ _ => 0) (fun _ _ => 0) (pl_w V) a_roleAt a_scopeAt a_valueAt := by
  refine ⟨fun f x hf hx => ⟨h0 _ (by omega), by show (0 : Nat) < 4; omega, (hr.2 _ (by omega)).2, (hT.2 (f * 20 + x) (by omega)).2⟩, fun ⟨f, x, _, _, h⟩ => absurd rfl h⟩
end
theorem ry_q {G : gm_G} {L K V : Nat → Nat} {v : SY} (h : ry_R true G L K V v) : ry_Q G L K V (ry_B v) (fun _ => False) v := ⟨h, rfl, fun _ _ z => z.elim⟩
theorem i_vc_definitions {k : Nat} {u : SX} {v : SY} (I : i_Rel k u v) (hk : k + 5 ≤ 2560) (v1 : Int32) : wpX_definitions (fun r => wpY_definitions (fun r' v' => r' = r ∧ i_Rel (k + 5) u v') v v1) u v1 := by
  have I0 := I
  obtain ⟨b, G, L, K, V, hp, hX, hY⟩ := I
  obtain ⟨f_built, f_productionCount, f_depth, a_ruleOf, a_marked, a_symbolCount, a_symbols, a_roles, a_derives, a_first, a_follow, a_textLength, a_kindAt, a_valueAt, a_failsAt, a_expectedAt, a_roleAt, a_scopeAt, a_openProduction, a_openNext, a_openStart, a_targetBefore⟩ := u
  have hX0 := hX
  obtain ⟨x1, x2, x3, x4, x5⟩ := hX
  cases b with
  | false =>
    obtain ⟨g_np, g_built, g_some, g_empty, g_wn, g_nt, b_pRule, b_pScope, b_pLen, b_sym, b_role, b_first, b_follow, b_kind, b_val, b_len, b_word, b_reach, b_beyond, b_way, b_known, b_bad, b_part, b_scopes, b_inner, b_tRule, b_tFrom, b_tTo, b_before⟩ := v
    have yside : wpY_definitions (fun r' v' => r' = 0 ∧ i_Rel (k + 5) (f_built, f_productionCount, f_depth, a_ruleOf, a_marked, a_symbolCount, a_symbols, a_roles, a_derives, a_first, a_follow, a_textLength, a_kindAt, a_valueAt, a_failsAt, a_expectedAt, a_roleAt, a_scopeAt, a_openProduction, a_openNext, a_openStart, a_targetBefore) v') (g_np, g_built, g_some, g_empty, g_wn, g_nt, b_pRule, b_pScope, b_pLen, b_sym, b_role, b_first, b_follow, b_kind, b_val, b_len, b_word, b_reach, b_beyond, b_way, b_known, b_bad, b_part, b_scopes, b_inner, b_tRule, b_tFrom, b_tTo, b_before) v1 := by
      unfold wpY_definitions wpY_count
      dsimp only
      exact br_t hY.1 ⟨rfl, I0⟩
    unfold wpX_definitions
    dsimp only
    refine xl_count (r := 1) (xl_0 hp.2.1 x3 (x5 rfl)) (by omega) _ (fun _ => yside) (fun f hf e => ?_)
    rw [cn_z (fun k hk => by show ¬ (0 : Nat) = 1; omega)]
    exact yside
  | true =>
    have hG := hp.2.2.1 rfl
    unfold wpX_definitions
    dsimp only
    refine xl_count (r := 1) (xl_t hG hp.2.1 x3 (x4 rfl).2) (by omega) _ (fun hn => ?_) (fun f hf e => ?_)
    · obtain ⟨g_np, g_built, g_some, g_empty, g_wn, g_nt, b_pRule, b_pScope, b_pLen, b_sym, b_role, b_first, b_follow, b_kind, b_val, b_len, b_word, b_reach, b_beyond, b_way, b_known, b_bad, b_part, b_scopes, b_inner, b_tRule, b_tFrom, b_tTo, b_before⟩ := v
      unfold wpY_definitions
      dsimp only
      exact yl_count (r := 1) hG hp.2.1 (ry_q hY) ⟨by omega, by omega⟩ _ (fun _ => ⟨rfl, I0⟩) (fun f hf e => absurd ⟨f, hf, e⟩ hn)
    · have hQ := ry_q hY
      obtain ⟨g_np, g_built, g_some, g_empty, g_wn, g_nt, b_pRule, b_pScope, b_pLen, b_sym, b_role, b_first, b_follow, b_kind, b_val, b_len, b_word, b_reach, b_beyond, b_way, b_known, b_bad, b_part, b_scopes, b_inner, b_tRule, b_tFrom, b_tTo, b_before⟩ := v
      unfold wpY_definitions
      dsimp only
      refine yl_count (r := 1) hG hp.2.1 hQ ⟨by omega, by omega⟩ _ (fun hn => absurd ⟨f, hf, e⟩ hn) (fun f' hf' e' v' hv' => ?_)
      obtain ⟨f_np, f_built, f_some, f_empty, f_wn, f_nt, a_pRule, a_pScope, a_pLen, a_sym, a_role, a_first, a_follow, a_kind, a_val, a_len, a_word, a_reach, a_beyond, a_way, a_known, a_bad, a_part, a_scopes, a_inner, a_tRule, a_tFrom, a_tTo, a_before⟩ := v'
      have ef : f' = f := (nI_eq (by omega) (by omega)).mp (e'.symm.trans e)
      subst ef
      exact ⟨rfl, true, G, L, K, V, hp, hX0, hv'.1⟩
theorem i_vc_references {k : Nat} {u : SX} {v : SY} (I : i_Rel k u v) (hk : k + 5 ≤ 2560) (v1 : Int32) : wpX_references (fun r => wpY_references (fun r' v' => r' = r ∧ i_Rel (k + 5) u v') v v1) u v1 := by
  have I0 := I
  obtain ⟨b, G, L, K, V, hp, hX, hY⟩ := I
  obtain ⟨f_built, f_productionCount, f_depth, a_ruleOf, a_marked, a_symbolCount, a_symbols, a_roles, a_derives, a_first, a_follow, a_textLength, a_kindAt, a_valueAt, a_failsAt, a_expectedAt, a_roleAt, a_scopeAt, a_openProduction, a_openNext, a_openStart, a_targetBefore⟩ := u
  have hX0 := hX
  obtain ⟨x1, x2, x3, x4, x5⟩ := hX
  cases b with
  | false =>
    obtain ⟨g_np, g_built, g_some, g_empty, g_wn, g_nt, b_pRule, b_pScope, b_pLen, b_sym, b_role, b_first, b_follow, b_kind, b_val, b_len, b_word, b_reach, b_beyond, b_way, b_known, b_bad, b_part, b_scopes, b_inner, b_tRule, b_tFrom, b_tTo, b_before⟩ := v
    have yside : wpY_references (fun r' v' => r' = 0 ∧ i_Rel (k + 5) (f_built, f_productionCount, f_depth, a_ruleOf, a_marked, a_symbolCount, a_symbols, a_roles, a_derives, a_first, a_follow, a_textLength, a_kindAt, a_valueAt, a_failsAt, a_expectedAt, a_roleAt, a_scopeAt, a_openProduction, a_openNext, a_openStart, a_targetBefore) v') (g_np, g_built, g_some, g_empty, g_wn, g_nt, b_pRule, b_pScope, b_pLen, b_sym, b_role, b_first, b_follow, b_kind, b_val, b_len, b_word, b_reach, b_beyond, b_way, b_known, b_bad, b_part, b_scopes, b_inner, b_tRule, b_tFrom, b_tTo, b_before) v1 := by
      unfold wpY_references wpY_count
      dsimp only
      exact br_t hY.1 ⟨rfl, I0⟩
    unfold wpX_references
    dsimp only
    refine xl_count (r := 2) (xl_0 hp.2.1 x3 (x5 rfl)) (by omega) _ (fun _ => yside) (fun f hf e => ?_)
    rw [cn_z (fun k hk => by show ¬ (0 : Nat) = 2; omega)]
    exact yside
  | true =>
    have hG := hp.2.2.1 rfl
    unfold wpX_references
    dsimp only
    refine xl_count (r := 2) (xl_t hG hp.2.1 x3 (x4 rfl).2) (by omega) _ (fun hn => ?_) (fun f hf e => ?_)
    · obtain ⟨g_np, g_built, g_some, g_empty, g_wn, g_nt, b_pRule, b_pScope, b_pLen, b_sym, b_role, b_first, b_follow, b_kind, b_val, b_len, b_word, b_reach, b_beyond, b_way, b_known, b_bad, b_part, b_scopes, b_inner, b_tRule, b_tFrom, b_tTo, b_before⟩ := v
      unfold wpY_references
      dsimp only
      exact yl_count (r := 2) hG hp.2.1 (ry_q hY) ⟨by omega, by omega⟩ _ (fun _ => ⟨rfl, I0⟩) (fun f hf e => absurd ⟨f, hf, e⟩ hn)
    · have hQ := ry_q hY
      obtain ⟨g_np, g_built, g_some, g_empty, g_wn, g_nt, b_pRule, b_pScope, b_pLen, b_sym, b_role, b_first, b_follow, b_kind, b_val, b_len, b_word, b_reach, b_beyond, b_way, b_known, b_bad, b_part, b_scopes, b_inner, b_tRule, b_tFrom, b_tTo, b_before⟩ := v
      unfold wpY_references
      dsimp only
      refine yl_count (r := 2) hG hp.2.1 hQ ⟨by omega, by omega⟩ _ (fun hn => absurd ⟨f, hf, e⟩ hn) (fun f' hf' e' v' hv' => ?_)
      obtain ⟨f_np, f_built, f_some, f_empty, f_wn, f_nt, a_pRule, a_pScope, a_pLen, a_sym, a_role, a_first, a_follow, a_kind, a_val, a_len, a_word, a_reach, a_beyond, a_way, a_known, a_bad, a_part, a_scopes, a_inner, a_tRule, a_tFrom, a_tTo, a_before⟩ := v'
      have ef : f' = f := (nI_eq (by omega) (by omega)).mp (e'.symm.trans e)
      subst ef
      exact ⟨rfl, true, G, L, K, V, hp, hX0, hv'.1⟩
theorem lk_pu {R : Nat → Nat → Nat} {f r x x' : Nat} {v : Int32} (h : lk_p R f r v x) (h' : lk_p R f r v x') : x = x' := by
  obtain ⟨a1, a2, a3⟩ := h
  obtain ⟨b1, b2, b3⟩ := h'
  have mono : ∀ a b, a < b → R f a = r → cn (fun x => R f x = r) a < cn (fun x => R f x = r) b := by
    intro a b hab ha
    have : ∀ k, cn (fun x => R f x = r) (a + 1) ≤ cn (fun x => R f x = r) (a + 1 + k) := by
      intro k
      induction k with
      | zero => exact Nat.le_refl _
      | succ k ik =>
        rw [show a + 1 + (k + 1) = a + 1 + k + 1 from by omega, cn_s _ (a + 1 + k)]
        omega
    have := this (b - (a + 1))
    rw [show a + 1 + (b - (a + 1)) = b from by omega, cn_s, b01_t ha] at this
    omega
  have c1 := cn_le (fun x => R f x = r) x
  have c2 := cn_le (fun x => R f x = r) x'
  have e := (nI_eq (by omega) (by omega)).mp (a3.symm.trans b3)
  rcases Nat.lt_trichotomy x x' with z | z | z
  · have := mono x x' z a2; omega
  · exact z
  · have := mono x' x z b2; omega
theorem i_vc_target {k : Nat} {u : SX} {v : SY} (I : i_Rel k u v) (hk : k + 5 ≤ 2560) (v1 : Int32) (v2 : Int32) : wpX_target (fun r => wpY_target (fun r' v' => r' = r ∧ i_Rel (k + 5) u v') v v1 v2) u v1 v2 := by
  have I0 := I
  obtain ⟨b, G, L, K, V, hp, hX, hY⟩ := I
  obtain ⟨f_built, f_productionCount, f_depth, a_ruleOf, a_marked, a_symbolCount, a_symbols, a_roles, a_derives, a_first, a_follow, a_textLength, a_kindAt, a_valueAt, a_failsAt, a_expectedAt, a_roleAt, a_scopeAt, a_openProduction, a_openNext, a_openStart, a_targetBefore⟩ := u
  have hX0 := hX
  obtain ⟨x1, x2, x3, x4, x5⟩ := hX
  cases b with
  | false =>
    obtain ⟨g_np, g_built, g_some, g_empty, g_wn, g_nt, b_pRule, b_pScope, b_pLen, b_sym, b_role, b_first, b_follow, b_kind, b_val, b_len, b_word, b_reach, b_beyond, b_way, b_known, b_bad, b_part, b_scopes, b_inner, b_tRule, b_tFrom, b_tTo, b_before⟩ := v
    unfold wpX_target
    dsimp only
    refine xl_place (r := 2) (xl_0 hp.2.1 x3 (x5 rfl)) (by omega) _ (fun _ => br_t rfl ?_) (fun f x hf e h => absurd h.2.1 (by show ¬ (0 : Nat) = 2; omega))
    unfold wpY_target wY_target_25 wY_target_26
    dsimp only
    exact br_t hY.1 (br_f (by decide) ⟨rfl, I0⟩)
  | true =>
    have hG := hp.2.2.1 rfl
    have hl := xl_t hG hp.2.1 x3 (x4 rfl).2
    have hQ := ry_q hY
    unfold wpX_target
    dsimp only
    refine xl_place (r := 2) hl (by omega) _ (fun hn => br_t rfl ?_) (fun f x hf e h => br_f (pl_n (by have := h.1; omega)) ?_)
    · obtain ⟨g_np, g_built, g_some, g_empty, g_wn, g_nt, b_pRule, b_pScope, b_pLen, b_sym, b_role, b_first, b_follow, b_kind, b_val, b_len, b_word, b_reach, b_beyond, b_way, b_known, b_bad, b_part, b_scopes, b_inner, b_tRule, b_tFrom, b_tTo, b_before⟩ := v
      unfold wpY_target
      dsimp only
      refine br_f (by rw [hY.1]; decide) (ym_isf _ (fun _ => br_t rfl ?_) (fun f hf e => br_f (by decide) ?_))
      · unfold wY_target_25 wY_target_26
        exact br_f (by decide) ⟨rfl, I0⟩
      · subst e
        refine yl_place (r := 2) hG hp.2.1 hQ hf ⟨by omega, by omega⟩ _ (fun x v' h _ _ => absurd ⟨f, x, hf, rfl, h⟩ hn) (fun v' _ hv' => ?_)
        obtain ⟨f_np, f_built, f_some, f_empty, f_wn, f_nt, a_pRule, a_pScope, a_pLen, a_sym, a_role, a_first, a_follow, a_kind, a_val, a_len, a_word, a_reach, a_beyond, a_way, a_known, a_bad, a_part, a_scopes, a_inner, a_tRule, a_tFrom, a_tTo, a_before⟩ := v'
        unfold wY_target_26
        exact br_f (by decide) ⟨rfl, true, G, L, K, V, hp, hX0, hv'.1⟩
    · subst e
      have hx := h.1
      -- Y's answer is the code of the target
      have yside : ∀ r : Int32, r = lk_w (pl_r G L K) (lk_t (pl_r G L K) (pl_c G L K) (pl_w V) f x) → wpY_target (fun r' v' => r' = r ∧ i_Rel (k + 5) (f_built, f_productionCount, f_depth, a_ruleOf, a_marked, a_symbolCount, a_symbols, a_roles, a_derives, a_first, a_follow, a_textLength, a_kindAt, a_valueAt, a_failsAt, a_expectedAt, a_roleAt, a_scopeAt, a_openProduction, a_openNext, a_openStart, a_targetBefore) v') v (nI f) v2 := by
        intro r hr
        obtain ⟨g_np, g_built, g_some, g_empty, g_wn, g_nt, b_pRule, b_pScope, b_pLen, b_sym, b_role, b_first, b_follow, b_kind, b_val, b_len, b_word, b_reach, b_beyond, b_way, b_known, b_bad, b_part, b_scopes, b_inner, b_tRule, b_tFrom, b_tTo, b_before⟩ := v
        unfold wpY_target
        dsimp only
        refine br_f (by rw [hY.1]; decide) (ym_isf _ (fun hn => absurd ⟨f, hf, rfl⟩ hn) (fun _ _ _ => br_f (by decide) ?_))
        refine yl_place (r := 2) hG hp.2.1 hQ hf ⟨by omega, by omega⟩ _ (fun x' v' h' hv' hk' => ?_) (fun v' hn _ => absurd h (hn x))
        have ex := lk_pu h h'
        subst ex
        have hr2 := h'.2.1
        obtain ⟨hd, _⟩ := pl_t (G := G) (L := L) (K := K) hG (f := f) (x := x) (by omega)
        obtain ⟨f_np, f_built, f_some, f_empty, f_wn, f_nt, a_pRule, a_pScope, a_pLen, a_sym, a_role, a_first, a_follow, a_kind, a_val, a_len, a_word, a_reach, a_beyond, a_way, a_known, a_bad, a_part, a_scopes, a_inner, a_tRule, a_tFrom, a_tTo, a_before⟩ := v'
        unfold wY_target_26
        refine br_t (nI_pos' (by omega)) (yl_link hG hp.2.1 hv' hf hx hk' hd _ (fun v3 hv3 => ?_))
        obtain ⟨f_np, f_built, f_some, f_empty, f_wn, f_nt, a_pRule, a_pScope, a_pLen, a_sym, a_role, a_first, a_follow, a_kind, a_val, a_len, a_word, a_reach, a_beyond, a_way, a_known, a_bad, a_part, a_scopes, a_inner, a_tRule, a_tFrom, a_tTo, a_before⟩ := v3
        exact ⟨hr.symm, true, G, L, K, V, hp, hX0, hv3.1⟩
      refine xl_tp hl hf hx _ (fun z => absurd h.2.1 z) (fun _ => ?_)
      unfold pl_o
      rcases Nat.lt_or_ge (lk_t (pl_r G L K) (pl_c G L K) (pl_w V) f x) 80 with z | z
      · rw [if_pos z]
        refine br_f (pl_n z) ⟨by decide, ?_⟩
        have ey : lk_t (pl_r G L K) (pl_c G L K) (pl_w V) f x = lk_t (pl_r G L K) (pl_c G L K) (pl_w V) f x / 20 * 20 + lk_t (pl_r G L K) (pl_c G L K) (pl_w V) f x % 20 := by omega
        have cl := cn_le (fun z => pl_r G L K (lk_t (pl_r G L K) (pl_c G L K) (pl_w V) f x / 20) z = 1) (lk_t (pl_r G L K) (pl_c G L K) (pl_w V) f x % 20)
        have dn := xl_dn (f_built := f_built) (f_productionCount := f_productionCount) (f_depth := f_depth) (a_ruleOf := a_ruleOf) (a_marked := a_marked) (a_symbolCount := a_symbolCount) (a_symbols := a_symbols) (a_roles := a_roles) (a_derives := a_derives) (a_first := a_first) (a_follow := a_follow) (a_textLength := a_textLength) (a_kindAt := a_kindAt) (a_valueAt := a_valueAt) (a_failsAt := a_failsAt) (a_expectedAt := a_expectedAt) (a_roleAt := a_roleAt) (a_scopeAt := a_scopeAt) (a_openProduction := a_openProduction) (a_openNext := a_openNext) (a_openStart := a_openStart) (a_targetBefore := a_targetBefore) hl (f := lk_t (pl_r G L K) (pl_c G L K) (pl_w V) f x / 20) (x := lk_t (pl_r G L K) (pl_c G L K) (pl_w V) f x % 20) (by omega) (by omega) (fun r => wpY_target (fun r' v' => r' = 32 * (nI (lk_t (pl_r G L K) (pl_c G L K) (pl_w V) f x) / 20) + r ∧ i_Rel (k + 5) (f_built, f_productionCount, f_depth, a_ruleOf, a_marked, a_symbolCount, a_symbols, a_roles, a_derives, a_first, a_follow, a_textLength, a_kindAt, a_valueAt, a_failsAt, a_expectedAt, a_roleAt, a_scopeAt, a_openProduction, a_openNext, a_openStart, a_targetBefore) v') v (nI f) v2) (yside _ (by
          unfold lk_w
          rw [if_pos z, show (20 : Int32) = nI 20 from rfl, pk_div (by omega) (by omega) (by omega), ba_32x]))
        rw [← ey] at dn
        exact dn
      · rw [if_neg (by omega)]
        refine br_t rfl (yside _ ?_)
        unfold lk_w
        rw [if_neg (by omega)]
theorem i_vc_duplicates {k : Nat} {u : SX} {v : SY} (I : i_Rel k u v) (hk : k + 5 ≤ 2560) (v1 : Int32) : wpX_duplicates (fun r => wpY_duplicates (fun r' v' => r' = r ∧ i_Rel (k + 5) u v') v v1) u v1 := by
  have I0 := I
  obtain ⟨b, G, L, K, V, hp, hX, hY⟩ := I
  obtain ⟨f_built, f_productionCount, f_depth, a_ruleOf, a_marked, a_symbolCount, a_symbols, a_roles, a_derives, a_first, a_follow, a_textLength, a_kindAt, a_valueAt, a_failsAt, a_expectedAt, a_roleAt, a_scopeAt, a_openProduction, a_openNext, a_openStart, a_targetBefore⟩ := u
  have hX0 := hX
  obtain ⟨x1, x2, x3, x4, x5⟩ := hX
  cases b with
  | false =>
    obtain ⟨g_np, g_built, g_some, g_empty, g_wn, g_nt, b_pRule, b_pScope, b_pLen, b_sym, b_role, b_first, b_follow, b_kind, b_val, b_len, b_word, b_reach, b_beyond, b_way, b_known, b_bad, b_part, b_scopes, b_inner, b_tRule, b_tFrom, b_tTo, b_before⟩ := v
    have yside : wpY_duplicates (fun r' v' => r' = 0 ∧ i_Rel (k + 5) (f_built, f_productionCount, f_depth, a_ruleOf, a_marked, a_symbolCount, a_symbols, a_roles, a_derives, a_first, a_follow, a_textLength, a_kindAt, a_valueAt, a_failsAt, a_expectedAt, a_roleAt, a_scopeAt, a_openProduction, a_openNext, a_openStart, a_targetBefore) v') (g_np, g_built, g_some, g_empty, g_wn, g_nt, b_pRule, b_pScope, b_pLen, b_sym, b_role, b_first, b_follow, b_kind, b_val, b_len, b_word, b_reach, b_beyond, b_way, b_known, b_bad, b_part, b_scopes, b_inner, b_tRule, b_tFrom, b_tTo, b_before) v1 := by
      unfold wpY_duplicates
      dsimp only
      refine ⟨1, ?_⟩
      rw [wY_duplicates_7]
      exact br_f (by decide) (br_t hY.1 ⟨rfl, I0⟩)
    refine xl_dup (xl_0 hp.2.1 x3 (x5 rfl)) _ (fun _ => yside) (fun f hf e => ?_)
    rw [cn_z (fun k hk z => absurd z.1 (by show ¬ (0 : Nat) = 1; omega))]
    exact yside
  | true =>
    have hG := hp.2.2.1 rfl
    refine xl_dup (xl_t hG hp.2.1 x3 (x4 rfl).2) _ (fun hn => yl_dup hG hp.2.1 (ry_q hY) _ (fun _ => ⟨rfl, I0⟩) (fun f hf e => absurd ⟨f, hf, e⟩ hn)) (fun f hf e => yl_dup hG hp.2.1 (ry_q hY) _ (fun hn => absurd ⟨f, hf, e⟩ hn) (fun f' hf' e' v' hv' => ?_))
    have ef : f' = f := (nI_eq (by omega) (by omega)).mp (e'.symm.trans e)
    subst ef
    exact ⟨rfl, true, G, L, K, V, hp, hX0, hv'.1⟩
theorem i_vc_unresolved {k : Nat} {u : SX} {v : SY} (I : i_Rel k u v) (hk : k + 5 ≤ 2560) : wpX_unresolved (fun r => wpY_unresolved (fun r' v' => r' = r ∧ i_Rel (k + 5) u v') v) u := by
  have I0 := I
  obtain ⟨b, G, L, K, V, hp, hX, hY⟩ := I
  obtain ⟨f_built, f_productionCount, f_depth, a_ruleOf, a_marked, a_symbolCount, a_symbols, a_roles, a_derives, a_first, a_follow, a_textLength, a_kindAt, a_valueAt, a_failsAt, a_expectedAt, a_roleAt, a_scopeAt, a_openProduction, a_openNext, a_openStart, a_targetBefore⟩ := u
  have hX0 := hX
  obtain ⟨x1, x2, x3, x4, x5⟩ := hX
  cases b with
  | false =>
    obtain ⟨g_np, g_built, g_some, g_empty, g_wn, g_nt, b_pRule, b_pScope, b_pLen, b_sym, b_role, b_first, b_follow, b_kind, b_val, b_len, b_word, b_reach, b_beyond, b_way, b_known, b_bad, b_part, b_scopes, b_inner, b_tRule, b_tFrom, b_tTo, b_before⟩ := v
    refine ⟨80 + 1, xl_u4 (xl_0 hp.2.1 x3 (x5 rfl)) _ ?_ 80 0 (by omega)⟩
    rw [cn_z (fun k hk z => absurd z.1 (by show ¬ (0 : Nat) = 2; omega))]
    unfold wpY_unresolved
    dsimp only
    exact br_t hY.1 ⟨rfl, I0⟩
  | true =>
    have hG := hp.2.2.1 rfl
    refine ⟨80 + 1, xl_u4 (xl_t hG hp.2.1 x3 (x4 rfl).2) _ ?_ 80 0 (by omega)⟩
    have g := yl_u11 hG hp.2.1 (fun r' v' => r' = nI (cn (lk_v (pl_r G L K) (pl_c G L K) (pl_w V)) 80) ∧ i_Rel (k + 5) (f_built, f_productionCount, f_depth, a_ruleOf, a_marked, a_symbolCount, a_symbols, a_roles, a_derives, a_first, a_follow, a_textLength, a_kindAt, a_valueAt, a_failsAt, a_expectedAt, a_roleAt, a_scopeAt, a_openProduction, a_openNext, a_openStart, a_targetBefore) v') (fun v' hv' => ⟨rfl, true, G, L, K, V, hp, hX0, hv'.1⟩) 4 0 v (by omega) (ry_q hY)
    obtain ⟨g_np, g_built, g_some, g_empty, g_wn, g_nt, b_pRule, b_pScope, b_pLen, b_sym, b_role, b_first, b_follow, b_kind, b_val, b_len, b_word, b_reach, b_beyond, b_way, b_known, b_bad, b_part, b_scopes, b_inner, b_tRule, b_tFrom, b_tTo, b_before⟩ := v
    unfold wpY_unresolved
    dsimp only
    exact br_f (by rw [hY.1]; decide) ⟨4 + 1, g⟩
