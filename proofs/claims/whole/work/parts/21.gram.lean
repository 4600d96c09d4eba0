/-! the relation; production, symbol, build, restart -/
def i_Rel (k : Nat) (u : SX) (v : SY) : Prop := ∃ b G L K V, pr_ok b G L K V ∧ rx_R b G L K V u ∧ ry_R b G L K V v
theorem i_up {k : Nat} {u : SX} {v : SY} (h : i_Rel k u v) : i_Rel (k + 5) u v := h
theorem ba_ix {v : Int32} {n : Nat} (hn : n < 2 ^ 31) (h0 : ¬ v < 0) (h1 : ¬ nI n ≤ v) : ∃ j, j < n ∧ v = nI j := by
  rcases pk_ix v hn with h | h | h
  · exact absurd h h0
  · exact absurd h h1
  · exact h
theorem ba_lp {a b : Int32} (h : a < b) : ¬ b ≤ a := fun z => Int32.lt_irrefl (Int32.lt_of_lt_of_le h z)
theorem i_vc0 : wpX_init (fun u => wpY_init (fun v => i_Rel 0 u v)) := by
  unfold wpX_init wpY_init
  refine nm_e (nm_e ?_)
  refine ⟨false, (0, fun _ => 0, ud (fun _ => 0) 14 1, fun p m => if p = 14 then 10 else 0, fun _ _ => 0, fun _ => 0), fun _ => 0, fun _ => 0, fun _ => 0, ⟨⟨Nat.zero_le _, fun p hp => absurd hp (Nat.not_lt_zero _), rfl, rfl, rfl, rfl⟩, ⟨fun _ _ => Nat.zero_le _, fun _ _ => ⟨Nat.zero_lt_succ _, Nat.zero_lt_succ _⟩⟩, (fun h => nomatch h), fun _ _ _ => rfl⟩, ⟨rfl, ⟨rfl, fun p hp => ?_⟩, ⟨fun _ _ => rfl, fun _ _ => ⟨rfl, rfl⟩⟩, (fun h => nomatch h), fun _ x hx => ?_⟩, ⟨rfl, ⟨rfl, fun p hp => absurd hp (Nat.not_lt_zero _)⟩, ⟨fun _ _ => rfl, fun _ _ => ⟨rfl, rfl⟩⟩, fun _ _ => Or.inl rfl⟩⟩
  · rcases hp with hp | hp
    · exact absurd hp (Nat.not_lt_zero _)
    · subst hp
      refine ⟨rfl, rfl, rfl, fun m hm => ?_⟩
      have hm : m < 1 := hm
      have e : m = 0 := by omega
      subst e
      exact ⟨rfl, fun h => absurd h (by decide)⟩
  · rfl
/-! production -/
def gm_np (G : gm_G) (n bb : Nat) : gm_G := (gm_n G + 1, ud (gm_r G) (gm_n G) n, ud (gm_l G) (gm_n G) 0, gm_s G, gm_o G, ud (gm_k G) (gm_n G) bb)
theorem np_ok {G : gm_G} {n bb : Nat} (hG : gm_ok G) (h14 : gm_n G < 14) (hn : n < 6) (hb : bb ≤ 1) : gm_ok (gm_np G n bb) := by
  obtain ⟨a1, a2, a3, a4, a5, a6⟩ := hG
  have n14 : (14 : Nat) ≠ gm_n G := by omega
  refine ⟨h14, fun p hp => ?_, (ud_n n14).trans a3, (ud_n n14).trans a4, a5, (ud_n n14).trans a6⟩
  have hp : p < gm_n G + 1 := hp
  show ud (gm_r G) (gm_n G) n p < 6 ∧ ud (gm_l G) (gm_n G) 0 p ≤ 4 ∧ ud (gm_k G) (gm_n G) bb p ≤ 1 ∧ ∀ m, m < ud (gm_l G) (gm_n G) 0 p → gm_s G p m < 16 ∧ (gm_s G p m < 10 → gm_o G p m < 4)
  rcases Classical.em (p = gm_n G) with e | e
  · subst e
    rw [ud_s, ud_s, ud_s]
    exact ⟨hn, by omega, hb, fun m hm => by omega⟩
  · rw [ud_n e, ud_n e, ud_n e]
    exact a2 p (by omega)
theorem np_x {G : gm_G} {n bb : Nat} (hG : gm_ok G) (h14 : gm_n G < 14) {c : Int32} {A1 A2 A3 A4 A5 : Nat → Int32} (h : xg_ok G c A1 A2 A3 A4 A5) : xg_ok (gm_np G n bb) (nI (gm_n G + 1)) (upd A1 (gm_n G) (nI n)) (upd A2 (gm_n G) (nI bb)) (upd A3 (gm_n G) 0) A4 A5 := by
  refine ⟨rfl, fun p hp => ?_⟩
  show upd A1 (gm_n G) (nI n) p = nI (ud (gm_r G) (gm_n G) n p) ∧ upd A2 (gm_n G) (nI bb) p = nI (ud (gm_k G) (gm_n G) bb p) ∧ upd A3 (gm_n G) 0 p = nI (ud (gm_l G) (gm_n G) 0 p) ∧ ∀ m, m < ud (gm_l G) (gm_n G) 0 p → A4 (p * 4 + m) = nI (gm_s G p m) ∧ (gm_s G p m < 10 → A5 (p * 4 + m) = nI (gm_o G p m))
  rcases Classical.em (p = gm_n G) with e | e
  · subst e
    rw [ud_s, ud_s, ud_s, pk_us, pk_us, pk_us]
    exact ⟨rfl, rfl, rfl, fun m hm => by omega⟩
  · rw [ud_n e, ud_n e, ud_n e, pk_un e, pk_un e, pk_un e]
    have hp : p < gm_n G + 1 ∨ p = 14 := hp
    exact h.2 p (hp.elim (fun z => Or.inl (by omega)) Or.inr)
theorem np_y {G : gm_G} {n bb : Nat} {c : Int32} {A1 A2 A3 A4 A5 : Nat → Int32} (h : yg_ok G c A1 A2 A3 A4 A5) : yg_ok (gm_np G n bb) (nI (gm_n G + 1)) (upd A1 (gm_n G) (nI n)) (upd A2 (gm_n G) (nI bb)) (upd A3 (gm_n G) 0) A4 A5 := by
  refine ⟨rfl, fun p hp => ?_⟩
  show upd A1 (gm_n G) (nI n) p = nI (ud (gm_r G) (gm_n G) n p) ∧ upd A2 (gm_n G) (nI bb) p = nI (ud (gm_k G) (gm_n G) bb p) ∧ upd A3 (gm_n G) 0 p = nI (ud (gm_l G) (gm_n G) 0 p) ∧ ∀ m, m < ud (gm_l G) (gm_n G) 0 p → A4 (p * 4 + m) = nI (gm_s G p m) ∧ (gm_s G p m < 10 → A5 (p * 4 + m) = nI (gm_o G p m))
  have hp : p < gm_n G + 1 := hp
  rcases Classical.em (p = gm_n G) with e | e
  · subst e
    rw [ud_s, ud_s, ud_s, pk_us, pk_us, pk_us]
    exact ⟨rfl, rfl, rfl, fun m hm => by omega⟩
  · rw [ud_n e, ud_n e, ud_n e, pk_un e, pk_un e, pk_un e]
    exact h.2 p (by omega)
theorem i_vc_production {k : Nat} {u : SX} {v : SY} (I : i_Rel k u v) (hk : k + 5 ≤ 2560) (v1 : Int32) (v2 : Int32) : wpX_production (fun r u' => wpY_production (fun r' v' => r' = r ∧ i_Rel (k + 5) u' v') v v1 (lw_bz v2)) u v1 (lw_bz v2) := by
  have I0 := I
  obtain ⟨b, G, L, K, V, hp, hX, hY⟩ := I
  obtain ⟨f_built, f_productionCount, f_depth, a_ruleOf, a_marked, a_symbolCount, a_symbols, a_roles, a_derives, a_first, a_follow, a_textLength, a_kindAt, a_valueAt, a_failsAt, a_expectedAt, a_roleAt, a_scopeAt, a_openProduction, a_openNext, a_openStart, a_targetBefore⟩ := u
  obtain ⟨g_np, g_built, g_some, g_empty, g_wn, g_nt, b_pRule, b_pScope, b_pLen, b_sym, b_role, b_first, b_follow, b_kind, b_val, b_len, b_word, b_reach, b_beyond, b_way, b_known, b_bad, b_part, b_scopes, b_inner, b_tRule, b_tFrom, b_tTo, b_before⟩ := v
  obtain ⟨x1, x2, x3, x4, x5⟩ := hX
  obtain ⟨y1, y2, y3, y4⟩ := hY
  have same : i_Rel (k + 5) (f_built, f_productionCount, f_depth, a_ruleOf, a_marked, a_symbolCount, a_symbols, a_roles, a_derives, a_first, a_follow, a_textLength, a_kindAt, a_valueAt, a_failsAt, a_expectedAt, a_roleAt, a_scopeAt, a_openProduction, a_openNext, a_openStart, a_targetBefore) (g_np, g_built, g_some, g_empty, g_wn, g_nt, b_pRule, b_pScope, b_pLen, b_sym, b_role, b_first, b_follow, b_kind, b_val, b_len, b_word, b_reach, b_beyond, b_way, b_known, b_bad, b_part, b_scopes, b_inner, b_tRule, b_tFrom, b_tTo, b_before) := I0
  have h14 := hp.1.1
  unfold wpX_production wpY_production
  dsimp only
  cases b with
  | true => exact br_f (by rw [x1]; decide) (br_f (by rw [y1]; decide) ⟨rfl, same⟩)
  | false =>
    refine br_t x1 ?_
    rcases pk_ix v1 (n := 6) (by omega) with h | h | ⟨n, hn, e⟩
    · exact br_t h (br_t y1 (br_t h ⟨rfl, same⟩))
    · have h0 : ¬ v1 < 0 := fun z => Int32.lt_irrefl (Int32.lt_of_lt_of_le z (Int32.le_trans (by decide) h))
      exact br_f h0 (br_t h (br_t y1 (br_f h0 (br_t (Int32.lt_of_lt_of_le (by decide) h) ⟨rfl, same⟩))))
    · subst e
      refine br_f (nI_pos (by omega)) (br_f (nI_ge (b := 6) hn (by omega)) ?_)
      rcases Nat.lt_or_ge (gm_n G) 14 with z | z
      · obtain ⟨bb, hb, eb⟩ : ∃ bb, bb ≤ 1 ∧ lw_bz v2 = nI bb := by
          rcases lw_bz_01 v2 with q | q
          · exact ⟨0, by omega, q⟩
          · exact ⟨1, by omega, q⟩
        have vb : vp_nar .boolean (nI bb) = nI bb := by
          rcases Nat.lt_or_ge bb 1 with q | q
          · have e : bb = 0 := by omega
            subst e; rfl
          · have e : bb = 1 := by omega
            subst e; rfl
        have c1 : (nI (gm_n G)).toNatClampNeg = gm_n G := nI_clamp (by omega)
        rw [x2.1, y2.1, eb, vb, c1]
        have i1 : vp_in (nI (gm_n G)) 15 := vp_in_nI (by omega) (by omega)
        have i2 : vp_in (nI (gm_n G)) 14 := vp_in_nI (by omega) (by omega)
        refine br_t (nI_lt (b := 14) z (by omega)) ⟨i1, nm_e ⟨i1, nm_e ⟨i1, nm_e (nm_r (nI_1 _) ?_)⟩⟩⟩
        refine br_t y1 (br_f (nI_pos (by omega)) (br_f (nI_nlt (a := 5) (b := n) (by omega) (by omega)) (br_f (fun q => ?_) ⟨i2, nm_r (congrArg _ (show vp_nar .byte ((nI n).toInt8.toInt32) = nI n from by rw [ba_nb _ (by omega), ba_vb (by omega)])) ⟨i2, nm_e ⟨i2, nm_r (congrArg _ (show vp_nar .byte 0 = 0 from ba_vb (k := 0) (by omega))) (nm_r (nI_1 _) ⟨rfl, ?_⟩)⟩⟩⟩)))
        · have := (nI_eq (a := gm_n G) (b := 14) (by omega) (by omega)).mp q
          omega
        · exact ⟨false, gm_np G n bb, L, K, V, ⟨np_ok hp.1 z hn hb, hp.2.1, (fun h => nomatch h), hp.2.2.2⟩, ⟨x1, np_x hp.1 z x2, x3, (fun h => nomatch h), x5⟩, ⟨y1, np_y y2, y3, fun f hf => (y4 f hf).elim Or.inl (fun q => nomatch q.1)⟩⟩
      · have e14 : gm_n G = 14 := by omega
        refine br_f (by rw [x2.1, e14]; decide) (br_t y1 (br_f (nI_pos (by omega)) (br_f (nI_nlt (a := 5) (b := n) (by omega) (by omega)) (br_t (by rw [y2.1, e14]; rfl) ⟨rfl, same⟩))))
/-! symbol -/
def gm_sp (G : gm_G) (s r : Nat) : gm_G := (gm_n G, gm_r G, ud (gm_l G) (gm_n G - 1) (gm_l G (gm_n G - 1) + 1), fun p m => if p = gm_n G - 1 ∧ m = gm_l G (gm_n G - 1) then s else gm_s G p m, fun p m => if p = gm_n G - 1 ∧ m = gm_l G (gm_n G - 1) then r else gm_o G p m, gm_k G)
theorem sp_ok {G : gm_G} {s r : Nat} (hG : gm_ok G) (h0 : 1 ≤ gm_n G) (hl : gm_l G (gm_n G - 1) < 4) (hs : s < 16) (hr : s < 10 → r < 4) : gm_ok (gm_sp G s r) := by
  obtain ⟨a1, a2, a3, a4, a5, a6⟩ := hG
  have n14 : (14 : Nat) ≠ gm_n G - 1 := by omega
  refine ⟨a1, fun p hp => ?_, a3, (ud_n n14).trans a4, (if_neg (fun z => n14 z.1)).trans a5, a6⟩
  have hp : p < gm_n G := hp
  obtain ⟨b1, b2, b3, b4⟩ := a2 p hp
  show gm_r G p < 6 ∧ ud (gm_l G) (gm_n G - 1) (gm_l G (gm_n G - 1) + 1) p ≤ 4 ∧ gm_k G p ≤ 1 ∧ ∀ m, m < ud (gm_l G) (gm_n G - 1) (gm_l G (gm_n G - 1) + 1) p → (if p = gm_n G - 1 ∧ m = gm_l G (gm_n G - 1) then s else gm_s G p m) < 16 ∧ ((if p = gm_n G - 1 ∧ m = gm_l G (gm_n G - 1) then s else gm_s G p m) < 10 → (if p = gm_n G - 1 ∧ m = gm_l G (gm_n G - 1) then r else gm_o G p m) < 4)
  rcases Classical.em (p = gm_n G - 1) with e | e
  · subst e
    rw [ud_s]
    refine ⟨b1, by omega, b3, fun m hm => ?_⟩
    rcases Classical.em (m = gm_l G (gm_n G - 1)) with q | q
    · rw [if_pos ⟨rfl, q⟩, if_pos ⟨rfl, q⟩]
      exact ⟨hs, hr⟩
    · rw [if_neg (fun z => q z.2), if_neg (fun z => q z.2)]
      exact b4 m (by omega)
  · rw [ud_n e]
    refine ⟨b1, b2, b3, fun m hm => ?_⟩
    rw [if_neg (fun z => e z.1), if_neg (fun z => e z.1)]
    exact b4 m hm
theorem sp_x {G : gm_G} {s r : Nat} (hG : gm_ok G) (h0 : 1 ≤ gm_n G) (hl : gm_l G (gm_n G - 1) < 4) {c vr : Int32} {A1 A2 A3 A4 A5 : Nat → Int32} (hr : s < 10 → vr = nI r) (h : xg_ok G c A1 A2 A3 A4 A5) : xg_ok (gm_sp G s r) c A1 A2 (upd A3 (gm_n G - 1) (nI (gm_l G (gm_n G - 1) + 1))) (upd A4 ((gm_n G - 1) * 4 + gm_l G (gm_n G - 1)) (nI s)) (upd A5 ((gm_n G - 1) * 4 + gm_l G (gm_n G - 1)) vr) := by
  refine ⟨h.1, fun p hp => ?_⟩
  obtain ⟨b1, b2, b3, b4⟩ := h.2 p hp
  have hl4 := (gm_vs hG hp).1
  show A1 p = nI (gm_r G p) ∧ A2 p = nI (gm_k G p) ∧ upd A3 (gm_n G - 1) (nI (gm_l G (gm_n G - 1) + 1)) p = nI (ud (gm_l G) (gm_n G - 1) (gm_l G (gm_n G - 1) + 1) p) ∧ ∀ m, m < ud (gm_l G) (gm_n G - 1) (gm_l G (gm_n G - 1) + 1) p → upd A4 ((gm_n G - 1) * 4 + gm_l G (gm_n G - 1)) (nI s) (p * 4 + m) = nI (if p = gm_n G - 1 ∧ m = gm_l G (gm_n G - 1) then s else gm_s G p m) ∧ ((if p = gm_n G - 1 ∧ m = gm_l G (gm_n G - 1) then s else gm_s G p m) < 10 → upd A5 ((gm_n G - 1) * 4 + gm_l G (gm_n G - 1)) vr (p * 4 + m) = nI (if p = gm_n G - 1 ∧ m = gm_l G (gm_n G - 1) then r else gm_o G p m))
  rcases Classical.em (p = gm_n G - 1) with e | e
  · subst e
    rw [ud_s, pk_us]
    refine ⟨b1, b2, rfl, fun m hm => ?_⟩
    rcases Classical.em (m = gm_l G (gm_n G - 1)) with q | q
    · subst q
      rw [if_pos ⟨rfl, rfl⟩, if_pos ⟨rfl, rfl⟩, pk_us, pk_us]
      exact ⟨rfl, hr⟩
    · rw [if_neg (fun z => q z.2), if_neg (fun z => q z.2), pk_un (by omega), pk_un (by omega)]
      exact b4 m (by omega)
  · rw [ud_n e, pk_un e]
    refine ⟨b1, b2, b3, fun m hm => ?_⟩
    rw [if_neg (fun z => e z.1), if_neg (fun z => e z.1), pk_un (by omega), pk_un (by omega)]
    exact b4 m hm
theorem sp_y {G : gm_G} {s r : Nat} (hG : gm_ok G) (h0 : 1 ≤ gm_n G) (hl : gm_l G (gm_n G - 1) < 4) {c vr : Int32} {A1 A2 A3 A4 A5 : Nat → Int32} (hr : s < 10 → vr = nI r) (h : yg_ok G c A1 A2 A3 A4 A5) : yg_ok (gm_sp G s r) c A1 A2 (upd A3 (gm_n G - 1) (nI (gm_l G (gm_n G - 1) + 1))) (upd A4 ((gm_n G - 1) * 4 + gm_l G (gm_n G - 1)) (nI s)) (upd A5 ((gm_n G - 1) * 4 + gm_l G (gm_n G - 1)) vr) := by
  refine ⟨h.1, fun p hp => ?_⟩
  have hp : p < gm_n G := hp
  obtain ⟨b1, b2, b3, b4⟩ := h.2 p hp
  have hl4 := (gm_p0 hG hp).2.2.1
  show A1 p = nI (gm_r G p) ∧ A2 p = nI (gm_k G p) ∧ upd A3 (gm_n G - 1) (nI (gm_l G (gm_n G - 1) + 1)) p = nI (ud (gm_l G) (gm_n G - 1) (gm_l G (gm_n G - 1) + 1) p) ∧ ∀ m, m < ud (gm_l G) (gm_n G - 1) (gm_l G (gm_n G - 1) + 1) p → upd A4 ((gm_n G - 1) * 4 + gm_l G (gm_n G - 1)) (nI s) (p * 4 + m) = nI (if p = gm_n G - 1 ∧ m = gm_l G (gm_n G - 1) then s else gm_s G p m) ∧ ((if p = gm_n G - 1 ∧ m = gm_l G (gm_n G - 1) then s else gm_s G p m) < 10 → upd A5 ((gm_n G - 1) * 4 + gm_l G (gm_n G - 1)) vr (p * 4 + m) = nI (if p = gm_n G - 1 ∧ m = gm_l G (gm_n G - 1) then r else gm_o G p m))
  rcases Classical.em (p = gm_n G - 1) with e | e
  · subst e
    rw [ud_s, pk_us]
    refine ⟨b1, b2, rfl, fun m hm => ?_⟩
    rcases Classical.em (m = gm_l G (gm_n G - 1)) with q | q
    · subst q
      rw [if_pos ⟨rfl, rfl⟩, if_pos ⟨rfl, rfl⟩, pk_us, pk_us]
      exact ⟨rfl, hr⟩
    · rw [if_neg (fun z => q z.2), if_neg (fun z => q z.2), pk_un (by omega), pk_un (by omega)]
      exact b4 m (by omega)
  · rw [ud_n e, pk_un e]
    refine ⟨b1, b2, b3, fun m hm => ?_⟩
    rw [if_neg (fun z => e z.1), if_neg (fun z => e z.1), pk_un (by omega), pk_un (by omega)]
    exact b4 m hm
def sy_ok (b : Bool) (G : gm_G) (v1 v2 : Int32) : Prop := b = false ∧ 1 ≤ gm_n G ∧ gm_l G (gm_n G - 1) < 4 ∧ ∃ s, s < 16 ∧ v1 = nI s ∧ (s < 10 → ∃ r, r < 4 ∧ v2 = nI r)
section
variable {f_built f_productionCount f_depth : Int32} {a_ruleOf a_marked a_symbolCount a_symbols a_roles a_derives a_first a_follow a_textLength a_kindAt a_valueAt a_failsAt a_expectedAt a_roleAt a_scopeAt a_openProduction a_openNext a_openStart a_targetBefore : Nat → Int32} {G : gm_G} {b : Bool}
theorem xm_sym43 (hG : gm_ok G) (hx : xg_ok G f_productionCount a_ruleOf a_marked a_symbolCount a_symbols a_roles) (h0 : 1 ≤ gm_n G) (v1 v2 : Int32) (post : Int32 → SX → Prop) (hP0 : ¬ gm_l G (gm_n G - 1) < 4 → post 0 (f_built, f_productionCount, f_depth, a_ruleOf, a_marked, a_symbolCount, a_symbols, a_roles, a_derives, a_first, a_follow, a_textLength, a_kindAt, a_valueAt, a_failsAt, a_expectedAt, a_roleAt, a_scopeAt, a_openProduction, a_openNext, a_openStart, a_targetBefore)) (hP1 : gm_l G (gm_n G - 1) < 4 → post 1 (f_built, f_productionCount, f_depth, a_ruleOf, a_marked, upd a_symbolCount (gm_n G - 1) (nI (gm_l G (gm_n G - 1) + 1)), upd a_symbols ((gm_n G - 1) * 4 + gm_l G (gm_n G - 1)) v1, upd a_roles ((gm_n G - 1) * 4 + gm_l G (gm_n G - 1)) v2, a_derives, a_first, a_follow, a_textLength, a_kindAt, a_valueAt, a_failsAt, a_expectedAt, a_roleAt, a_scopeAt, a_openProduction, a_openNext, a_openStart, a_targetBefore)) : wX_symbol_43 post v1 v2 f_built f_productionCount f_depth a_ruleOf a_marked a_symbolCount a_symbols a_roles a_derives a_first a_follow a_textLength a_kindAt a_valueAt a_failsAt a_expectedAt a_roleAt a_scopeAt a_openProduction a_openNext a_openStart a_targetBefore := by
  have hv : gm_n G - 1 < gm_n G := by omega
  obtain ⟨p14, p6, pl, ps⟩ := gm_p0 hG hv
  have c1 : (nI (gm_n G - 1)).toNatClampNeg = gm_n G - 1 := nI_clamp (by omega)
  have i1 : vp_in (nI (gm_n G - 1)) 15 := vp_in_nI (by omega) (by omega)
  unfold wX_symbol_43
  refine nm_r (show f_productionCount - 1 = nI (gm_n G - 1) from by rw [hx.1]; exact ba_m1 h0) ?_
  rw [c1]
  refine ⟨i1, nm_r (hx.2 _ (Or.inl hv)).2.2.1 ?_⟩
  refine pk_lt (gm_l G (gm_n G - 1)) 4 (fun z => ?_) (fun z => hP0 (by omega))
  have c2 : (nI ((gm_n G - 1) * 4 + gm_l G (gm_n G - 1))).toNatClampNeg = (gm_n G - 1) * 4 + gm_l G (gm_n G - 1) := nI_clamp (by omega)
  have i2 : vp_in (nI ((gm_n G - 1) * 4 + gm_l G (gm_n G - 1))) 60 := vp_in_nI (by omega) (by omega)
  rw [ba_x4, c2, nI_1]
  exact ⟨i2, nm_e ⟨i2, nm_e ⟨i1, nm_e (hP1 z)⟩⟩⟩
theorem xm_symbol (hG : gm_ok G) (hb : f_built = rb b) (hx : xg_ok G f_productionCount a_ruleOf a_marked a_symbolCount a_symbols a_roles) (v1 v2 : Int32) (post : Int32 → SX → Prop) (hP0 : ¬ sy_ok b G v1 v2 → post 0 (f_built, f_productionCount, f_depth, a_ruleOf, a_marked, a_symbolCount, a_symbols, a_roles, a_derives, a_first, a_follow, a_textLength, a_kindAt, a_valueAt, a_failsAt, a_expectedAt, a_roleAt, a_scopeAt, a_openProduction, a_openNext, a_openStart, a_targetBefore)) (hP1 : sy_ok b G v1 v2 → post 1 (f_built, f_productionCount, f_depth, a_ruleOf, a_marked, upd a_symbolCount (gm_n G - 1) (nI (gm_l G (gm_n G - 1) + 1)), upd a_symbols ((gm_n G - 1) * 4 + gm_l G (gm_n G - 1)) v1, upd a_roles ((gm_n G - 1) * 4 + gm_l G (gm_n G - 1)) v2, a_derives, a_first, a_follow, a_textLength, a_kindAt, a_valueAt, a_failsAt, a_expectedAt, a_roleAt, a_scopeAt, a_openProduction, a_openNext, a_openStart, a_targetBefore)) : wpX_symbol post (f_built, f_productionCount, f_depth, a_ruleOf, a_marked, a_symbolCount, a_symbols, a_roles, a_derives, a_first, a_follow, a_textLength, a_kindAt, a_valueAt, a_failsAt, a_expectedAt, a_roleAt, a_scopeAt, a_openProduction, a_openNext, a_openStart, a_targetBefore) v1 v2 := by
  have h14 := hG.1
  unfold wpX_symbol
  dsimp only
  refine br_c (fun h1 => br_c (fun h2 => hP0 (fun ⟨_, z, _⟩ => ?_)) (fun h2 => br_c (fun h3 => hP0 (fun ⟨_, _, _, s, z1, z2, _⟩ => ?_)) (fun h3 => br_c (fun h4 => br_c (fun h5 => ?_) (fun h5 => br_c (fun h6 => hP0 (fun ⟨_, _, _, s, z1, z2, z3⟩ => ?_)) (fun h6 => br_c (fun h7 => ?_) (fun h7 => hP0 (fun ⟨_, _, _, s, z1, z2, z3⟩ => ?_))))) (fun h4 => hP0 (fun ⟨_, _, _, s, z1, z2, _⟩ => ?_))))) (fun h1 => hP0 (fun ⟨z, _⟩ => ?_))
  · rw [hx.1] at h2
    exact nI_ne0 z (by omega) h2
  · subst z2; exact nI_pos (by omega) h3
  · have hbf : b = false := by
      cases b with
      | false => rfl
      | true => rw [hb] at h1; exact absurd h1 (by decide)
    have hn : 1 ≤ gm_n G := by
      rcases Nat.eq_zero_or_pos (gm_n G) with z | z
      · rw [hx.1, z] at h2; exact absurd rfl h2
      · exact z
    obtain ⟨s, s1, s2⟩ := ba_ix (n := 16) (by omega) h3 (ba_lp h4)
    subst s2
    have s10 : ¬ s < 10 := fun z => nI_ge (b := 10) z (by omega) h5
    exact xm_sym43 hG hx hn _ v2 post (fun z => hP0 (fun y => z y.2.2.1)) (fun z => hP1 ⟨hbf, hn, z, s, s1, rfl, fun y => absurd y s10⟩)
  · subst z2
    have s10 : s < 10 := by
      rcases Nat.lt_or_ge s 10 with y | y
      · exact y
      · exact absurd (nI_le (a := 10) y (by omega)) h5
    obtain ⟨r, r1, r2⟩ := z3 s10
    subst r2; exact nI_pos (by omega) h6
  · have hbf : b = false := by
      cases b with
      | false => rfl
      | true => rw [hb] at h1; exact absurd h1 (by decide)
    have hn : 1 ≤ gm_n G := by
      rcases Nat.eq_zero_or_pos (gm_n G) with z | z
      · rw [hx.1, z] at h2; exact absurd rfl h2
      · exact z
    obtain ⟨s, s1, s2⟩ := ba_ix (n := 16) (by omega) h3 (ba_lp h4)
    obtain ⟨r, r1, r2⟩ := ba_ix (n := 4) (by omega) h6 (ba_lp h7)
    exact xm_sym43 hG hx hn _ v2 post (fun z => hP0 (fun y => z y.2.2.1)) (fun z => hP1 ⟨hbf, hn, z, s, s1, s2, fun _ => ⟨r, r1, r2⟩⟩)
  · subst z2
    have s10 : s < 10 := by
      rcases Nat.lt_or_ge s 10 with y | y
      · exact y
      · exact absurd (nI_le (a := 10) y (by omega)) h5
    obtain ⟨r, r1, r2⟩ := z3 s10
    subst r2; exact h7 (nI_lt (b := 4) r1 (by omega))
  · subst z2; exact h4 (nI_lt (b := 16) z1 (by omega))
  · subst z; exact h1 hb
end
section
variable {f_np f_built f_some f_empty f_wn f_nt : Int32} {a_pRule a_pScope a_pLen a_sym a_role a_first a_follow a_kind a_val a_len a_word a_reach a_beyond a_way a_known a_bad a_part a_scopes a_inner a_tRule a_tFrom a_tTo a_before : Nat → Int32} {G : gm_G} {b : Bool}
theorem ym_symbol0 (hG : gm_ok G) (hb : f_built = rb b) (hy : yg_ok G f_np a_pRule a_pScope a_pLen a_sym a_role) (v1 v2 : Int32) (hn : ¬ sy_ok b G v1 v2) (post : Int32 → SY → Prop) (hP : post 0 (f_np, f_built, f_some, f_empty, f_wn, f_nt, a_pRule, a_pScope, a_pLen, a_sym, a_role, a_first, a_follow, a_kind, a_val, a_len, a_word, a_reach, a_beyond, a_way, a_known, a_bad, a_part, a_scopes, a_inner, a_tRule, a_tFrom, a_tTo, a_before)) : wpY_symbol post (f_np, f_built, f_some, f_empty, f_wn, f_nt, a_pRule, a_pScope, a_pLen, a_sym, a_role, a_first, a_follow, a_kind, a_val, a_len, a_word, a_reach, a_beyond, a_way, a_known, a_bad, a_part, a_scopes, a_inner, a_tRule, a_tFrom, a_tTo, a_before) v1 v2 := by
  have h14 := hG.1
  have key : ∀ A : Prop, ¬ f_np = 0 → ¬ (1 ≤ gm_n G) → A := fun A h z => by
    exfalso
    rw [hy.1, show gm_n G = 0 from by omega] at h
    exact h rfl
  unfold wpY_symbol
  dsimp only
  refine br_c (fun h1 => br_c (fun h2 => hP) (fun h2 => ?_)) (fun _ => hP)
  rcases Nat.eq_zero_or_pos (gm_n G) with z | z
  · exact key _ h2 (by omega)
  · have hv : gm_n G - 1 < gm_n G := by omega
    obtain ⟨p14, p6, pl, ps⟩ := gm_p0 hG hv
    have c1 : (nI (gm_n G - 1)).toNatClampNeg = gm_n G - 1 := nI_clamp (by omega)
    rw [show f_np - 1 = nI (gm_n G - 1) from by rw [hy.1]; exact ba_m1 z, c1, (hy.2 _ hv).2.2.1]
    have hbf : b = false := by
      cases b with
      | false => rfl
      | true => rw [hb] at h1; exact absurd h1 (by decide)
    refine ⟨vp_in_nI (by omega) (by omega), pk_eq (gm_l G (gm_n G - 1)) 4 (fun _ => hP) (fun h3 => br_c (fun _ => hP) (fun h4 => br_c (fun _ => hP) (fun h5 => br_c (fun h6 => ?_) (fun h6 => br_c (fun _ => hP) (fun h7 => br_c (fun h8 => ?_) (fun _ => hP))))))⟩
    · exfalso
      obtain ⟨s, s1, s2⟩ := ba_ix (v := v1) (n := 16) (by omega) h4 (fun q => h5 (Int32.lt_of_lt_of_le (by decide) q))
      subst s2
      exact hn ⟨hbf, z, by omega, s, s1, rfl, fun y => absurd h6 (nI_ge (b := 10) y (by omega))⟩
    · exfalso
      obtain ⟨s, s1, s2⟩ := ba_ix (v := v1) (n := 16) (by omega) h4 (fun q => h5 (Int32.lt_of_lt_of_le (by decide) q))
      obtain ⟨r, r1, r2⟩ := ba_ix (v := v2) (n := 4) (by omega) h7 (fun q => Int32.lt_irrefl (Int32.lt_of_lt_of_le (show (3 : Int32) < 4 from by decide) (Int32.le_trans q h8)))
      exact hn ⟨hbf, z, by omega, s, s1, s2, fun _ => ⟨r, r1, r2⟩⟩
theorem ym_symbol1 (hG : gm_ok G) (hb : f_built = 0) (hy : yg_ok G f_np a_pRule a_pScope a_pLen a_sym a_role) (h1 : 1 ≤ gm_n G) (hl : gm_l G (gm_n G - 1) < 4) {s : Nat} (hs : s < 16) {v2 : Int32} (hr : s < 10 → ∃ r, r < 4 ∧ v2 = nI r) (post : Int32 → SY → Prop) (hP : post 1 (f_np, f_built, f_some, f_empty, f_wn, f_nt, a_pRule, a_pScope, upd a_pLen (gm_n G - 1) (nI (gm_l G (gm_n G - 1) + 1)), upd a_sym ((gm_n G - 1) * 4 + gm_l G (gm_n G - 1)) (nI s), upd a_role ((gm_n G - 1) * 4 + gm_l G (gm_n G - 1)) (vp_nar .byte v2.toInt8.toInt32), a_first, a_follow, a_kind, a_val, a_len, a_word, a_reach, a_beyond, a_way, a_known, a_bad, a_part, a_scopes, a_inner, a_tRule, a_tFrom, a_tTo, a_before)) : wpY_symbol post (f_np, f_built, f_some, f_empty, f_wn, f_nt, a_pRule, a_pScope, a_pLen, a_sym, a_role, a_first, a_follow, a_kind, a_val, a_len, a_word, a_reach, a_beyond, a_way, a_known, a_bad, a_part, a_scopes, a_inner, a_tRule, a_tFrom, a_tTo, a_before) (nI s) v2 := by
  have h14 := hG.1
  have hv : gm_n G - 1 < gm_n G := by omega
  obtain ⟨p14, p6, pl, ps⟩ := gm_p0 hG hv
  have c1 : (nI (gm_n G - 1)).toNatClampNeg = gm_n G - 1 := nI_clamp (by omega)
  have i1 : vp_in (nI (gm_n G - 1)) 14 := vp_in_nI (by omega) (by omega)
  have em : f_np - 1 = nI (gm_n G - 1) := by rw [hy.1]; exact ba_m1 h1
  have fin : wY_symbol_56 post (nI s) v2 f_np f_built f_some f_empty f_wn f_nt a_pRule a_pScope a_pLen a_sym a_role a_first a_follow a_kind a_val a_len a_word a_reach a_beyond a_way a_known a_bad a_part a_scopes a_inner a_tRule a_tFrom a_tTo a_before := by
    unfold wY_symbol_56
    have c2 : (nI ((gm_n G - 1) * 4 + gm_l G (gm_n G - 1))).toNatClampNeg = (gm_n G - 1) * 4 + gm_l G (gm_n G - 1) := nI_clamp (by omega)
    have i2 : vp_in (nI ((gm_n G - 1) * 4 + gm_l G (gm_n G - 1))) 56 := vp_in_nI (by omega) (by omega)
    rw [em, c1, (hy.2 _ hv).2.2.1, ba_4x, nI_1, ba_nb _ (by omega), ba_vb (by omega)]
    refine ⟨i1, i1, nm_e (nm_e ?_)⟩
    rw [c2, ba_nb _ (by omega), ba_vb (by omega)]
    exact ⟨i2, nm_e ⟨i2, nm_e hP⟩⟩
  unfold wpY_symbol
  dsimp only
  refine br_t hb (br_f (by rw [hy.1]; exact nI_ne0 h1 (by omega)) ?_)
  rw [em, c1, (hy.2 _ hv).2.2.1]
  refine ⟨i1, pk_eq (gm_l G (gm_n G - 1)) 4 (fun z => by omega) (fun _ => br_f (nI_pos (by omega)) (br_f (nI_nlt (a := 15) (b := s) (by omega) (by omega)) (pk_le 10 s (fun _ => fin) (fun z => ?_))))⟩
  obtain ⟨r, r1, r2⟩ := hr z
  subst r2
  exact br_f (nI_pos (by omega)) (br_t (nI_le (b := 3) (by omega) (by omega)) fin)
end
theorem i_vc_symbol {k : Nat} {u : SX} {v : SY} (I : i_Rel k u v) (hk : k + 5 ≤ 2560) (v1 : Int32) (v2 : Int32) : wpX_symbol (fun r u' => wpY_symbol (fun r' v' => r' = r ∧ i_Rel (k + 5) u' v') v v1 v2) u v1 v2 := by
  have I0 := I
  obtain ⟨b, G, L, K, V, hp, hX, hY⟩ := I
  obtain ⟨f_built, f_productionCount, f_depth, a_ruleOf, a_marked, a_symbolCount, a_symbols, a_roles, a_derives, a_first, a_follow, a_textLength, a_kindAt, a_valueAt, a_failsAt, a_expectedAt, a_roleAt, a_scopeAt, a_openProduction, a_openNext, a_openStart, a_targetBefore⟩ := u
  obtain ⟨g_np, g_built, g_some, g_empty, g_wn, g_nt, b_pRule, b_pScope, b_pLen, b_sym, b_role, b_first, b_follow, b_kind, b_val, b_len, b_word, b_reach, b_beyond, b_way, b_known, b_bad, b_part, b_scopes, b_inner, b_tRule, b_tFrom, b_tTo, b_before⟩ := v
  obtain ⟨x1, x2, x3, x4, x5⟩ := hX
  obtain ⟨y1, y2, y3, y4⟩ := hY
  refine xm_symbol hp.1 x1 x2 v1 v2 _ (fun hn => ym_symbol0 hp.1 y1 y2 v1 v2 hn _ ⟨rfl, I0⟩) (fun ⟨hb, h1, hl, s, hs, e, hr⟩ => ?_)
  subst hb e
  refine ym_symbol1 hp.1 y1 y2 h1 hl hs hr _ ⟨rfl, ?_⟩
  obtain ⟨r, hr4, hrv⟩ : ∃ r, (s < 10 → r < 4) ∧ (s < 10 → v2 = nI r) := by
    rcases Nat.lt_or_ge s 10 with z | z
    · obtain ⟨r, r1, r2⟩ := hr z
      exact ⟨r, fun _ => r1, fun _ => r2⟩
    · exact ⟨0, fun h => by omega, fun h => by omega⟩
  refine ⟨false, gm_sp G s r, L, K, V, ⟨sp_ok hp.1 h1 hl hs hr4, hp.2.1, (fun h => nomatch h), hp.2.2.2⟩, ⟨x1, sp_x hp.1 h1 hl hrv x2, x3, (fun h => nomatch h), x5⟩, ⟨y1, sp_y hp.1 h1 hl (fun z => ?_) y2, y3, fun f hf => (y4 f hf).elim Or.inl (fun q => nomatch q.1)⟩⟩
  have := hr4 z
  rw [hrv z, ba_nb _ (by omega), ba_vb (by omega)]
/-! build -/
theorem i_vc_build {k : Nat} {u : SX} {v : SY} (I : i_Rel k u v) (hk : k + 5 ≤ 2560) : wpX_build (fun r u' => wpY_build (fun r' v' => r' = r ∧ i_Rel (k + 5) u' v') v) u := by
  have I0 := I
  obtain ⟨b, G, L, K, V, hp, hX, hY⟩ := I
  cases b with
  | true =>
    refine xm_built hX _ ?_
    obtain ⟨f_np, f_built, f_some, f_empty, f_wn, f_nt, a_pRule, a_pScope, a_pLen, a_sym, a_role, a_first, a_follow, a_kind, a_val, a_len, a_word, a_reach, a_beyond, a_way, a_known, a_bad, a_part, a_scopes, a_inner, a_tRule, a_tFrom, a_tTo, a_before⟩ := v
    unfold wpY_build
    dsimp only
    exact br_f (by rw [hY.1]; decide) ⟨rfl, I0⟩
  | false =>
    refine xm_build hp.1 hp.2.1 hX _ (fun r b u' hr hu => ?_)
    obtain ⟨f_np, f_built, f_some, f_empty, f_wn, f_nt, a_pRule, a_pScope, a_pLen, a_sym, a_role, a_first, a_follow, a_kind, a_val, a_len, a_word, a_reach, a_beyond, a_way, a_known, a_bad, a_part, a_scopes, a_inner, a_tRule, a_tFrom, a_tTo, a_before⟩ := v
    obtain ⟨y1, y2, y3, y4⟩ := hY
    refine ym_build hp.1 y2 y1 _ (fun r' b' sm em F W hr' => ?_)
    obtain ⟨e1, e2⟩ := bd_u hr' hr
    subst e1 e2
    refine ⟨rfl, b', G, L, K, V, ⟨hp.1, hp.2.1, fun h => by subst h; exact bd_g hp.1 hr, fun _ => hp.2.2.2 rfl⟩, hu, ⟨rfl, y2, y3, fun f hf => (y4 f hf).elim Or.inl (fun q => nomatch q.1)⟩⟩
/-! restart -/
section
variable {f_built f_productionCount f_depth : Int32} {a_ruleOf a_marked a_symbolCount a_symbols a_roles a_derives a_first a_follow a_textLength a_kindAt a_valueAt a_failsAt a_expectedAt a_roleAt a_scopeAt a_openProduction a_openNext a_openStart a_targetBefore : Nat → Int32}
theorem xm_rs12 (post : SX → Prop) (hP : ∀ TL RO SC, (∀ f, f < 4 → TL f = 0) → (∀ x, x < 80 → RO x = 0) → post (f_built, f_productionCount, f_depth, a_ruleOf, a_marked, a_symbolCount, a_symbols, a_roles, a_derives, a_first, a_follow, TL, a_kindAt, a_valueAt, a_failsAt, a_expectedAt, RO, SC, a_openProduction, a_openNext, a_openStart, a_targetBefore)) :
    ∀ d k TL RO SC, k + d = 4 → (∀ f, f < k → TL f = 0) → (∀ x, x < k * 20 → RO x = 0) → wX_restart_12 post (d + 1) (nI k) f_built f_productionCount f_depth a_ruleOf a_marked a_symbolCount a_symbols a_roles a_derives a_first a_follow TL a_kindAt a_valueAt a_failsAt a_expectedAt RO SC a_openProduction a_openNext a_openStart a_targetBefore := by
  intro d
  induction d with
  | zero =>
    intro k TL RO SC hk h1 h2
    rw [wX_restart_12]
    dsimp only
    exact br_t (nI_le (a := 4) (by omega) (by omega)) (hP TL RO SC (fun f hf => h1 f (by omega)) (fun x hx => h2 x (by omega)))
  | succ d ih =>
    intro k TL RO SC hk h1 h2
    have c1 : (nI k).toNatClampNeg = k := nI_clamp (by omega)
    rw [wX_restart_12]
    dsimp only
    rw [c1]
    refine br_f (nI_ge (b := 4) (by omega) (by omega)) ⟨vp_in_nI (by omega) (by omega), nm_e (xp_cm (f := k) (by omega) _ (fun RO' SC' q1 q2 q3 => nm_r (nI_1 k) (ih (k + 1) _ RO' SC' (by omega) (fun f hf => ?_) (fun x hx => ?_))))⟩
    · rcases Classical.em (f = k) with e | e
      · subst e; exact pk_us
      · exact (pk_un e).trans (h1 f (by omega))
    · rcases Nat.lt_or_ge x (k * 20) with z | z
      · rw [q2 x (by omega)]; exact h2 x z
      · have := (q1 (x - k * 20) (by omega)).1
        rw [show k * 20 + (x - k * 20) = x from by omega] at this
        exact this
end
section
variable {f_np f_built f_some f_empty f_wn f_nt : Int32} {a_pRule a_pScope a_pLen a_sym a_role a_first a_follow a_kind a_val a_len a_word a_reach a_beyond a_way a_known a_bad a_part a_scopes a_inner a_tRule a_tFrom a_tTo a_before : Nat → Int32}
theorem ym_rs12 (post : SY → Prop) (hP : ∀ LE KN, (∀ f, f < 4 → LE f = 0 ∧ KN f = 0) → post (f_np, f_built, f_some, f_empty, f_wn, f_nt, a_pRule, a_pScope, a_pLen, a_sym, a_role, a_first, a_follow, a_kind, a_val, LE, a_word, a_reach, a_beyond, a_way, KN, a_bad, a_part, a_scopes, a_inner, a_tRule, a_tFrom, a_tTo, a_before)) :
    ∀ d k LE KN, k + d = 4 → (∀ f, f < k → LE f = 0 ∧ KN f = 0) → wY_restart_12 post f_np f_built f_some f_empty f_wn f_nt (d + 1) (nI k) a_pRule a_pScope a_pLen a_sym a_role a_first a_follow a_kind a_val LE a_word a_reach a_beyond a_way KN a_bad a_part a_scopes a_inner a_tRule a_tFrom a_tTo a_before := by
  intro d
  induction d with
  | zero =>
    intro k LE KN hk h1
    rw [wY_restart_12]
    dsimp only
    exact br_t (nI_le (a := 4) (by omega) (by omega)) (hP LE KN (fun f hf => h1 f (by omega)))
  | succ d ih =>
    intro k LE KN hk h1
    have c1 : (nI k).toNatClampNeg = k := nI_clamp (by omega)
    rw [wY_restart_12]
    dsimp only
    rw [c1]
    refine br_f (nI_ge (b := 4) (by omega) (by omega)) ⟨vp_in_nI (by omega) (by omega), nm_r (congrArg _ (show vp_nar .byte 0 = 0 from ba_vb (k := 0) (by omega))) ⟨vp_in_nI (by omega) (by omega), nm_r (congrArg _ ba_bool0) (nm_r (nI_1 k) (ih (k + 1) _ _ (by omega) (fun f hf => ?_)))⟩⟩
    rcases Classical.em (f = k) with e | e
    · subst e; rw [pk_us, pk_us]; exact ⟨rfl, rfl⟩
    · rw [pk_un e, pk_un e]; exact h1 f (by omega)
end
theorem i_vc_restart {k : Nat} {u : SX} {v : SY} (I : i_Rel k u v) (hk : k + 5 ≤ 2560) : wpX_restart (fun u' => wpY_restart (fun v' => i_Rel (k + 5) u' v') v) u := by
  obtain ⟨b, G, L, K, V, hp, hX, hY⟩ := I
  obtain ⟨f_built, f_productionCount, f_depth, a_ruleOf, a_marked, a_symbolCount, a_symbols, a_roles, a_derives, a_first, a_follow, a_textLength, a_kindAt, a_valueAt, a_failsAt, a_expectedAt, a_roleAt, a_scopeAt, a_openProduction, a_openNext, a_openStart, a_targetBefore⟩ := u
  obtain ⟨g_np, g_built, g_some, g_empty, g_wn, g_nt, b_pRule, b_pScope, b_pLen, b_sym, b_role, b_first, b_follow, b_kind, b_val, b_len, b_word, b_reach, b_beyond, b_way, b_known, b_bad, b_part, b_scopes, b_inner, b_tRule, b_tFrom, b_tTo, b_before⟩ := v
  obtain ⟨x1, x2, x3, x4, x5⟩ := hX
  obtain ⟨y1, y2, y3, y4⟩ := hY
  unfold wpX_restart wpY_restart
  dsimp only
  refine ⟨4 + 1, xm_rs12 (f_built := 0) (f_productionCount := 0) _ (fun TL RO SC a1 a2 => ⟨4 + 1, ym_rs12 (f_np := 0) (f_built := 0) _ (fun LE KN b1 => ?_) 4 0 b_len b_known (by omega) (fun f h => by omega)⟩) 4 0 a_textLength a_roleAt a_scopeAt (by omega) (fun f h => by omega) (fun x h => by omega)⟩
  obtain ⟨g1, g2, g3, g4, g5, g6⟩ := hp.1
  refine ⟨false, (0, gm_r G, gm_l G, gm_s G, gm_o G, gm_k G), fun _ => 0, K, V, ⟨⟨Nat.zero_le _, fun p h => absurd h (Nat.not_lt_zero _), g3, g4, g5, g6⟩, ⟨fun _ _ => Nat.zero_le _, hp.2.1.2⟩, (fun h => nomatch h), fun _ _ _ => rfl⟩, ⟨rfl, ⟨rfl, fun p h => ?_⟩, ⟨a1, x3.2⟩, (fun h => nomatch h), fun _ => a2⟩, ⟨rfl, ⟨rfl, fun p h => absurd h (Nat.not_lt_zero _)⟩, ⟨fun f hf => (b1 f hf).1, y3.2⟩, fun f hf => Or.inl (b1 f hf).2⟩⟩
  rcases h with h | h
  · exact absurd h (Nat.not_lt_zero _)
  · exact x2.2 p (Or.inr h)
