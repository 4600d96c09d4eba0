/-! errorAt, scope, expected -/
theorem pr_b {b : Bool} {x : Int32} (h : x = rb b) : (x = 0 ↔ b = false) := by
  rw [h]
  cases b with
  | false => exact ⟨fun _ => rfl, fun _ => rfl⟩
  | true => exact ⟨fun z => absurd z (by decide), fun z => nomatch z⟩
theorem i_vc_errorAt {k : Nat} {u : SX} {v : SY} (I : i_Rel k u v) (hk : k + 5 ≤ 2560) (v1 : Int32) : wpX_errorAt (fun r => wpY_errorAt (fun r' v' => r' = r ∧ i_Rel (k + 5) u v') v v1) u v1 := by
  have I0 := I
  obtain ⟨b, G, L, K, V, hp, hX, hY⟩ := I
  obtain ⟨f_built, f_productionCount, f_depth, a_ruleOf, a_marked, a_symbolCount, a_symbols, a_roles, a_derives, a_first, a_follow, a_textLength, a_kindAt, a_valueAt, a_failsAt, a_expectedAt, a_roleAt, a_scopeAt, a_openProduction, a_openNext, a_openStart, a_targetBefore⟩ := u
  obtain ⟨g_np, g_built, g_some, g_empty, g_wn, g_nt, b_pRule, b_pScope, b_pLen, b_sym, b_role, b_first, b_follow, b_kind, b_val, b_len, b_word, b_reach, b_beyond, b_way, b_known, b_bad, b_part, b_scopes, b_inner, b_tRule, b_tFrom, b_tTo, b_before⟩ := v
  have hY0 := hY
  have hX0 := hX
  obtain ⟨x1, x2, x3, x4, x5⟩ := hX
  obtain ⟨y1, y2, y3, y4⟩ := hY
  unfold wpX_errorAt wpY_errorAt
  dsimp only
  cases b with
  | false => exact br_t x1 (br_t y1 ⟨rfl, I0⟩)
  | true =>
    have hb : ¬ f_built = 0 := by rw [x1]; decide
    have hb' : ¬ g_built = 0 := by rw [y1]; decide
    have hG := hp.2.2.1 rfl
    refine br_f hb (xm_isf _ (fun hn => br_t rfl (br_f hb' (ym_isf _ (fun _ => br_t rfl ⟨rfl, I0⟩) (fun f hf e => absurd ⟨f, hf, e⟩ hn)))) (fun f hf e => br_f (by decide) ?_))
    subst e
    have cF : (nI f).toNatClampNeg = f := nI_clamp (by omega)
    have iF : vp_in (nI f) 4 := vp_in_nI (by omega) (by omega)
    rw [cF]
    refine ⟨iF, br_f hb' (ym_isf _ (fun hn => absurd ⟨f, hf, rfl⟩ hn) (fun _ _ _ => br_f (by decide) (ym_know hG hp.2.1 hY0 hf _ (fun v' hv hkn => ?_))))⟩
    obtain ⟨f_np, f_built, f_some, f_empty, f_wn, f_nt, a_pRule, a_pScope, a_pLen, a_sym, a_role, a_first, a_follow, a_kind, a_val, a_len, a_word, a_reach, a_beyond, a_way, a_known, a_bad, a_part, a_scopes, a_inner, a_tRule, a_tFrom, a_tTo, a_before⟩ := v'
    exact ⟨iF, px_bu hkn.2.1 ((x4 rfl).2 f hf).2.1, true, G, L, K, V, hp, hX0, hv⟩
theorem i_vc_scope {k : Nat} {u : SX} {v : SY} (I : i_Rel k u v) (hk : k + 5 ≤ 2560) (v1 : Int32) (v2 : Int32) : wpX_scope (fun r => wpY_scope (fun r' v' => r' = r ∧ i_Rel (k + 5) u v') v v1 v2) u v1 v2 := by
  have I0 := I
  obtain ⟨b, G, L, K, V, hp, hX, hY⟩ := I
  obtain ⟨f_built, f_productionCount, f_depth, a_ruleOf, a_marked, a_symbolCount, a_symbols, a_roles, a_derives, a_first, a_follow, a_textLength, a_kindAt, a_valueAt, a_failsAt, a_expectedAt, a_roleAt, a_scopeAt, a_openProduction, a_openNext, a_openStart, a_targetBefore⟩ := u
  obtain ⟨g_np, g_built, g_some, g_empty, g_wn, g_nt, b_pRule, b_pScope, b_pLen, b_sym, b_role, b_first, b_follow, b_kind, b_val, b_len, b_word, b_reach, b_beyond, b_way, b_known, b_bad, b_part, b_scopes, b_inner, b_tRule, b_tFrom, b_tTo, b_before⟩ := v
  have hY0 := hY
  have hX0 := hX
  obtain ⟨x1, x2, x3, x4, x5⟩ := hX
  obtain ⟨y1, y2, y3, y4⟩ := hY
  unfold wpX_scope wpY_scope
  dsimp only
  refine xm_tok hp.2.1 x3 _ (fun hn => br_t rfl (ym_tok hp.2.1 y3 (fun _ => ⟨rfl, I0⟩) (fun f x a b c d => absurd ⟨f, x, a, b, c, d⟩ hn))) (fun f x hf hx e1 e2 => br_f (by decide) ?_)
  subst e1 e2
  have l := hp.2.1.1 f hf
  have hbt : b = true := by
    cases b with
    | true => rfl
    | false =>
      have := hp.2.2.2 rfl f hf
      omega
  subst hbt
  have hG := hp.2.2.1 rfl
  obtain ⟨q1, q2, q3, q4⟩ := (x4 rfl).2 f hf
  have cF : (nI f).toNatClampNeg = f := nI_clamp (by omega)
  have iF : vp_in (nI f) 4 := vp_in_nI (by omega) (by omega)
  have cI : (nI (f * 20 + x)).toNatClampNeg = f * 20 + x := nI_clamp (by omega)
  have iI : vp_in (nI (f * 20 + x)) 80 := vp_in_nI (by omega) (by omega)
  have hnr : ∀ kk : Nat, kk ≤ L f → ¬ nI kk = -1 := fun kk hk z => by
    have := nI_pos' (n := kk) (by omega)
    rw [z] at this
    exact absurd this (by decide)
  refine ⟨iF, ?_⟩
  rcases q2 with ⟨d1, d2⟩ | ⟨d1, kk, d2, d3, _⟩
  · refine br_t (by rw [cF]; exact d2) ⟨by rw [ba_x20]; exact iI, ym_tok hp.2.1 y3 (fun hn => absurd ⟨f, x, hf, hx, rfl, rfl⟩ hn) (fun f' x' _ _ _ _ => ym_know hG hp.2.1 hY0 hf _ (fun v' hv hkn => ?_))⟩
    obtain ⟨f_np, f_built, f_some, f_empty, f_wn, f_nt, a_pRule, a_pScope, a_pLen, a_sym, a_role, a_first, a_follow, a_kind, a_val, a_len, a_word, a_reach, a_beyond, a_way, a_known, a_bad, a_part, a_scopes, a_inner, a_tRule, a_tFrom, a_tTo, a_before⟩ := v'
    have hb : a_bad f = -1 := px_bu hkn.2.1 (Or.inl ⟨d1, rfl⟩)
    have hi : a_inner (f * 20 + x) = nI (px_c G (tx_w L K f) (L f) x) - 1 := ((hkn.2.2 d1).1 x hx).2
    have hs := q4 x (by omega)
    dsimp only
    refine ⟨iF, br_f (by rw [cF, hb]; decide) ⟨by rw [ba_20x]; exact iI, ?_, true, G, L, K, V, hp, hX0, hv⟩⟩
    rw [ba_20x, ba_x20, cI]
    exact hi.trans hs.symm
  · refine br_f (by rw [cF, d3]; exact hnr kk d2) (ym_tok hp.2.1 y3 (fun hn => absurd ⟨f, x, hf, hx, rfl, rfl⟩ hn) (fun f' x' _ _ _ _ => ym_know hG hp.2.1 hY0 hf _ (fun v' hv hkn => ?_)))
    obtain ⟨f_np, f_built, f_some, f_empty, f_wn, f_nt, a_pRule, a_pScope, a_pLen, a_sym, a_role, a_first, a_follow, a_kind, a_val, a_len, a_word, a_reach, a_beyond, a_way, a_known, a_bad, a_part, a_scopes, a_inner, a_tRule, a_tFrom, a_tTo, a_before⟩ := v'
    dsimp only
    rcases hkn.2.1 with ⟨z, _⟩ | ⟨_, k2, e1, e2, _⟩
    · exact absurd z d1
    · exact ⟨iF, br_t (by rw [cF, e2]; exact nI_pos' (by omega)) ⟨rfl, true, G, L, K, V, hp, hX0, hv⟩⟩
/-! expected -/
def ye_w (w : Nat → Nat) (k t x : Nat) : Nat := if x < k then w x else if x = k then t else 10
theorem ye_b {G : gm_G} {w : Nat → Nat} {k t : Nat} (ht : t < 10) : yb G (ye_w w k t) (k + 1) 0 0 ↔ px_e G w k t := by
  constructor
  · intro ⟨w', j, a, b, c⟩
    refine ⟨fun x => if x < j then w' x else 10, j, fun x hx => ?_, ?_, by omega, if_neg (Nat.lt_irrefl _), dr_D_w (fun x _ hx => (if_pos hx).symm) c⟩
    · exact (if_pos (by omega)).trans ((a x (by omega)).trans (if_pos hx))
    · exact (if_pos (by omega)).trans ((a k (by omega)).trans ((if_neg (Nat.lt_irrefl _)).trans (if_pos rfl)))
  · intro ⟨w', j, a, b, c, e, f⟩
    have hj : k < j := by
      rcases Nat.lt_or_ge k j with z | z
      · exact z
      · have q : k = j := by omega
        subst q; omega
    refine ⟨w', j, fun x hx => ?_, hj, f⟩
    rcases Nat.lt_or_ge x k with z | z
    · exact (a x z).trans (if_pos z).symm
    · have q : x = k := by omega
      subst q
      exact b.trans ((if_neg (Nat.lt_irrefl _)).trans (if_pos rfl)).symm
section
variable {f_np f_built f_some f_empty f_wn f_nt : Int32} {a_pRule a_pScope a_pLen a_sym a_role a_first a_follow a_kind a_val a_len a_word a_reach a_beyond a_way a_known a_bad a_part a_scopes a_inner a_tRule a_tFrom a_tTo a_before : Nat → Int32} {G : gm_G} {L K V : Nat → Nat}
theorem ym_e56 (hG : gm_gd G) (hy : yg_ok G f_np a_pRule a_pScope a_pLen a_sym a_role) {w : Nat → Nat} {f n : Nat} (hf : f < 4) (hn : n ≤ 20) (hk : ∀ x, x < n → a_kind (f * 20 + x) = nI (w x) ∧ w x < 10) (post : Int32 → SY → Prop) (hP : ∀ r wn WO RE BE WY, gm_ms r (px_e G w n) → post r (f_np, f_built, f_some, f_empty, wn, f_nt, a_pRule, a_pScope, a_pLen, a_sym, a_role, a_first, a_follow, a_kind, a_val, a_len, WO, RE, BE, WY, a_known, a_bad, a_part, a_scopes, a_inner, a_tRule, a_tFrom, a_tTo, a_before)) :
    ∀ d t x3 wn WO RE BE WY, t + d = 10 → gm_ms x3 (fun q => (q < t ∨ q = 10) ∧ px_e G w n q) → wY_expected_56 post (nI f) (nI n) (d + 1) x3 (nI t) f_np f_built f_some f_empty wn f_nt a_pRule a_pScope a_pLen a_sym a_role a_first a_follow a_kind a_val a_len WO RE BE WY a_known a_bad a_part a_scopes a_inner a_tRule a_tFrom a_tTo a_before := by
  intro d
  induction d with
  | zero =>
    intro t x3 wn WO RE BE WY ht hx
    have e : t = 10 := by omega
    subst e
    rw [wY_expected_56]
    dsimp only
    refine br_t (nI_le (a := 10) (by omega) (by omega)) (hP _ _ _ _ _ _ (gm_ms_if hx (fun q _ => ⟨fun z => z.2, fun z => ⟨?_, z⟩⟩)))
    have := px_e_le z
    omega
  | succ d ih =>
    intro t x3 wn WO RE BE WY ht hx
    have wk : ∀ x, x < n → ye_w w n t x = w x := fun x hx => if_pos hx
    have wt : ye_w w n t n = t := (if_neg (Nat.lt_irrefl _)).trans (if_pos rfl)
    rw [wY_expected_56]
    dsimp only
    refine br_f (nI_ge (b := 10) (by omega) (by omega)) (ym_take hG hy (w := ye_w w n t) (wn := n + 1) hf hn (Or.inr ⟨rfl, by rw [wt], by rw [wt]; omega⟩) (fun x hx => by rw [wk x hx]; exact hk x hx) (fun x hx => (if_neg (by omega)).trans (if_neg (by omega))) _ (fun WO' RE' BE' WY' q1 q2 q3 => ?_))
    refine ym_go hG q2 q3 _ (fun z => br_f (by decide) (nm_e (nm_r (nI_1 t) (ih (t + 1) _ _ _ _ _ _ (by omega) (fun q hq => ?_))))) (fun z => br_t rfl (nm_r (nI_1 t) (ih (t + 1) _ _ _ _ _ _ (by omega) (fun q hq => (hx q hq).trans ?_))))
    · rw [ba_oone (by omega), hx q hq]
      have zt := (ye_b (by omega)).mp z
      constructor
      · rintro (⟨h1, h2⟩ | h)
        · exact ⟨by omega, h2⟩
        · subst h; exact ⟨by omega, zt⟩
      · rintro ⟨h1, h2⟩
        rcases Classical.em (q = t) with e | e
        · exact Or.inr e
        · exact Or.inl ⟨by omega, h2⟩
    · have zt : ¬ px_e G w n t := fun y => z ((ye_b (by omega)).mpr y)
      constructor
      · rintro ⟨h1, h2⟩
        exact ⟨by omega, h2⟩
      · rintro ⟨h1, h2⟩
        rcases Classical.em (q = t) with e | e
        · subst e; exact absurd h2 zt
        · exact ⟨by omega, h2⟩
theorem ym_exp (hG : gm_gd G) (hy : yg_ok G f_np a_pRule a_pScope a_pLen a_sym a_role) {w : Nat → Nat} {f n : Nat} (hf : f < 4) (hn : n ≤ 20) (hk : ∀ x, x < n → a_kind (f * 20 + x) = nI (w x) ∧ w x < 10) (post : Int32 → SY → Prop) (hP : ∀ r wn WO RE BE WY, gm_ms r (px_e G w n) → post r (f_np, f_built, f_some, f_empty, wn, f_nt, a_pRule, a_pScope, a_pLen, a_sym, a_role, a_first, a_follow, a_kind, a_val, a_len, WO, RE, BE, WY, a_known, a_bad, a_part, a_scopes, a_inner, a_tRule, a_tFrom, a_tTo, a_before)) : wpY_take (fun u => match u with | (f_np, f_built, f_some, f_empty, f_wn, f_nt, a_pRule, a_pScope, a_pLen, a_sym, a_role, a_first, a_follow, a_kind, a_val, a_len, a_word, a_reach, a_beyond, a_way, a_known, a_bad, a_part, a_scopes, a_inner, a_tRule, a_tFrom, a_tTo, a_before) => wpY_whole (fun r_66 => (r_66 = 0 → ∃ n56 : Nat, wY_expected_56 post (nI f) (nI n) n56 0 0 f_np f_built f_some f_empty f_wn f_nt a_pRule a_pScope a_pLen a_sym a_role a_first a_follow a_kind a_val a_len a_word a_reach a_beyond a_way a_known a_bad a_part a_scopes a_inner a_tRule a_tFrom a_tTo a_before) ∧ (¬ r_66 = 0 → ∃ n56 : Nat, wY_expected_56 post (nI f) (nI n) n56 1024 0 f_np f_built f_some f_empty f_wn f_nt a_pRule a_pScope a_pLen a_sym a_role a_first a_follow a_kind a_val a_len a_word a_reach a_beyond a_way a_known a_bad a_part a_scopes a_inner a_tRule a_tFrom a_tTo a_before)) (f_np, f_built, f_some, f_empty, f_wn, f_nt, a_pRule, a_pScope, a_pLen, a_sym, a_role, a_first, a_follow, a_kind, a_val, a_len, a_word, a_reach, a_beyond, a_way, a_known, a_bad, a_part, a_scopes, a_inner, a_tRule, a_tFrom, a_tTo, a_before)) (f_np, f_built, f_some, f_empty, f_wn, f_nt, a_pRule, a_pScope, a_pLen, a_sym, a_role, a_first, a_follow, a_kind, a_val, a_len, a_word, a_reach, a_beyond, a_way, a_known, a_bad, a_part, a_scopes, a_inner, a_tRule, a_tFrom, a_tTo, a_before) (nI f) (nI n) (-1) := by
  have wkw : ∀ x, x < n → yk_w w n x = w x := fun x hx => if_pos hx
  refine ym_take hG hy (w := yk_w w n) (wn := n) hf hn (Or.inl ⟨rfl, rfl⟩) (fun x hx => by rw [wkw x hx]; exact hk x hx) (fun x hx => if_neg (by omega)) _ (fun WO RE BE WY q1 q2 q3 => ?_)
  have e10 : dr_D G (yk_w w n) 0 0 n ↔ px_e G w n 10 := by
    rw [← px_e_s (w := yk_w w n) (if_neg (Nat.lt_irrefl _))]
    constructor
    · intro ⟨w', j, a, b, c⟩
      exact ⟨w', j, fun x hx => (a x hx).trans (wkw x hx), b, c⟩
    · intro ⟨w', j, a, b, c⟩
      exact ⟨w', j, fun x hx => (a x hx).trans (wkw x hx).symm, b, c⟩
  refine ym_wh q1 q2 q3 _ (fun z => br_f (by decide) ⟨10 + 1, ym_e56 hG hy hf hn hk post hP 10 0 _ _ _ _ _ _ (by omega) (fun q hq => ?_)⟩) (fun z => br_t rfl ⟨10 + 1, ym_e56 hG hy hf hn hk post hP 10 0 _ _ _ _ _ _ (by omega) (fun q hq => ?_)⟩)
  · rw [ba_1024 q hq, decide_eq_true_iff]
    constructor
    · intro h
      subst h
      exact ⟨Or.inr rfl, e10.mp z⟩
    · intro h
      omega
  · rw [b_0]
    refine ⟨fun h => absurd h (by decide), fun h => ?_⟩
    have e : q = 10 := by omega
    subst e
    exact absurd (e10.mpr h.2) z
end
def ex_ok (b : Bool) (L : Nat → Nat) (v1 v2 : Int32) : Prop := b = true ∧ ∃ f x, f < 4 ∧ x ≤ L f ∧ v1 = nI f ∧ v2 = nI x
theorem i_vc_expected {k : Nat} {u : SX} {v : SY} (I : i_Rel k u v) (hk : k + 5 ≤ 2560) (v1 : Int32) (v2 : Int32) : wpX_expected (fun r => wpY_expected (fun r' v' => r' = r ∧ i_Rel (k + 5) u v') v v1 v2) u v1 v2 := by
  have I0 := I
  obtain ⟨b, G, L, K, V, hp, hX, hY⟩ := I
  obtain ⟨f_built, f_productionCount, f_depth, a_ruleOf, a_marked, a_symbolCount, a_symbols, a_roles, a_derives, a_first, a_follow, a_textLength, a_kindAt, a_valueAt, a_failsAt, a_expectedAt, a_roleAt, a_scopeAt, a_openProduction, a_openNext, a_openStart, a_targetBefore⟩ := u
  obtain ⟨g_np, g_built, g_some, g_empty, g_wn, g_nt, b_pRule, b_pScope, b_pLen, b_sym, b_role, b_first, b_follow, b_kind, b_val, b_len, b_word, b_reach, b_beyond, b_way, b_known, b_bad, b_part, b_scopes, b_inner, b_tRule, b_tFrom, b_tTo, b_before⟩ := v
  have hY0 := hY
  have hX0 := hX
  obtain ⟨x1, x2, x3, x4, x5⟩ := hX
  obtain ⟨y1, y2, y3, y4⟩ := hY
  unfold wpX_expected wpY_expected
  dsimp only
  cases b with
  | false => exact br_t x1 (br_t y1 ⟨rfl, I0⟩)
  | true =>
    have hb : ¬ f_built = 0 := by rw [x1]; decide
    have hb' : ¬ g_built = 0 := by rw [y1]; decide
    have hG := hp.2.2.1 rfl
    refine br_f hb (xm_isf _ (fun hn => br_t rfl (br_f hb' (ym_isf _ (fun _ => br_t rfl ⟨rfl, I0⟩) (fun f hf e => absurd ⟨f, hf, e⟩ hn)))) (fun f hf e => br_f (by decide) ?_))
    subst e
    have l := hp.2.1.1 f hf
    have cF : (nI f).toNatClampNeg = f := nI_clamp (by omega)
    have iF : vp_in (nI f) 4 := vp_in_nI (by omega) (by omega)
    have nf : ¬ ¬ ∃ f', f' < 4 ∧ nI f = nI f' := fun h => h ⟨f, hf, rfl⟩
    rw [cF, x3.1 f hf, y3.1 f hf]
    refine br_c (fun h => br_f hb' (ym_isf _ (fun hn => absurd hn nf) (fun _ _ _ => br_f (by decide) (br_t h ⟨rfl, I0⟩)))) (fun h => ?_)
    obtain ⟨x, xl, e⟩ := nI_of h
    subst e
    refine ⟨iF, pk_le x (L f) (fun z => ?_) (fun z => br_f hb' (ym_isf _ (fun hn => absurd hn nf) (fun _ _ _ => br_f (by decide) (br_f h ⟨iF, br_f (nI_ge z (by omega)) ⟨rfl, I0⟩⟩))))⟩
    have cE : (nI (f * 21 + x)).toNatClampNeg = f * 21 + x := nI_clamp (by omega)
    rw [ba_x21, cE]
    refine ⟨vp_in_nI (by omega) (by omega), br_f hb' (ym_isf _ (fun hn => absurd hn nf) (fun _ _ _ => br_f (by decide) (br_f h ⟨iF, br_t (nI_le z (by omega)) ?_⟩)))⟩
    have hw := tx_wk hp.2.1 y3 hf
    refine ym_exp hG y2 (w := tx_w L K f) hf (by omega) (fun y hy => hw y (by omega)) _ (fun r wn WO RE BE WY hr => ⟨gm_ms_eq hr (((x4 rfl).2 f hf).1 x z), true, G, L, K, V, hp, hX0, y1, y2, y3, y4⟩)
