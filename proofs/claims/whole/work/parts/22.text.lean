/-! put, delete, token, errorAt, expected, scope -/
theorem tx_wg {L K L' K' : Nat → Nat} {g : Nat} (hL : L' g = L g) (hK : ∀ x, x < L g → K' (g * 20 + x) = K (g * 20 + x)) : tx_w L' K' g = tx_w L K g := by
  funext x
  unfold tx_w
  rw [hL]
  split
  · next h => exact hK x h
  · rfl
theorem rx_fg {G : gm_G} {L K L' K' : Nat → Nat} {g : Nat} (hL : L' g = L g) (hK : ∀ x, x < L g → K' (g * 20 + x) = K (g * 20 + x)) {FA EX RO SC : Nat → Int32} (h : rx_f G L K g FA EX RO SC) : rx_f G L' K' g FA EX RO SC := by
  unfold rx_f at h ⊢
  rw [tx_wg hL hK, hL]
  exact h
theorem ry_fg {G : gm_G} {L K L' K' : Nat → Nat} {g : Nat} (hL : L' g = L g) (hK : ∀ x, x < L g → K' (g * 20 + x) = K (g * 20 + x)) {BA PA IN SP : Nat → Int32} (h : ry_f G L K g BA PA IN SP) : ry_f G L' K' g BA PA IN SP := by
  unfold ry_f at h ⊢
  rw [tx_wg hL hK, hL]
  exact h
theorem xm_isf {v1 : Int32} (post : Int32 → Prop) (h0 : (¬ ∃ f, f < 4 ∧ v1 = nI f) → post 0) (h1 : ∀ f, f < 4 → v1 = nI f → post 1) : wpX_isFile post v1 := by
  unfold wpX_isFile
  refine br_c (fun h => h0 (fun ⟨f, a, b⟩ => ?_)) (fun h => br_c (fun h' => h0 (fun ⟨f, a, b⟩ => ?_)) (fun h' => ?_))
  · subst b; exact nI_pos (by omega) h
  · subst b; exact nI_ge (b := 4) a (by omega) h'
  · obtain ⟨f, a, b⟩ := ba_ix (n := 4) (by omega) h h'
    exact h1 f a b
theorem ym_isf {v : SY} {v1 : Int32} (post : Int32 → Prop) (h0 : (¬ ∃ f, f < 4 ∧ v1 = nI f) → post 0) (h1 : ∀ f, f < 4 → v1 = nI f → post 1) : wpY_isFile post v v1 := by
  obtain ⟨f_np, f_built, f_some, f_empty, f_wn, f_nt, a_pRule, a_pScope, a_pLen, a_sym, a_role, a_first, a_follow, a_kind, a_val, a_len, a_word, a_reach, a_beyond, a_way, a_known, a_bad, a_part, a_scopes, a_inner, a_tRule, a_tFrom, a_tTo, a_before⟩ := v
  unfold wpY_isFile
  dsimp only
  refine br_c (fun h => h0 (fun ⟨f, a, b⟩ => ?_)) (fun h => br_c (fun h' => h0 (fun ⟨f, a, b⟩ => ?_)) (fun h' => ?_))
  · subst b; exact nI_pos (by omega) h
  · subst b; exact nI_ge (b := 4) a (by omega) h'
  · obtain ⟨f, a, b⟩ := ba_ix (n := 4) (by omega) h h'
    exact h1 f a b
def tk_ok (L : Nat → Nat) (v1 v2 : Int32) : Prop := ∃ f x, f < 4 ∧ x < L f ∧ v1 = nI f ∧ v2 = nI x
section
variable {f_built f_productionCount f_depth : Int32} {a_ruleOf a_marked a_symbolCount a_symbols a_roles a_derives a_first a_follow a_textLength a_kindAt a_valueAt a_failsAt a_expectedAt a_roleAt a_scopeAt a_openProduction a_openNext a_openStart a_targetBefore : Nat → Int32} {G : gm_G} {L K V : Nat → Nat} {b : Bool}
theorem xm_tok (hT : tx_ok L K V) (hr : rx_t L K V a_textLength a_kindAt a_valueAt) {v1 v2 : Int32} (post : Int32 → Prop) (h0 : ¬ tk_ok L v1 v2 → post 0) (h1 : ∀ f x, f < 4 → x < L f → v1 = nI f → v2 = nI x → post 1) : wpX_isToken post (f_built, f_productionCount, f_depth, a_ruleOf, a_marked, a_symbolCount, a_symbols, a_roles, a_derives, a_first, a_follow, a_textLength, a_kindAt, a_valueAt, a_failsAt, a_expectedAt, a_roleAt, a_scopeAt, a_openProduction, a_openNext, a_openStart, a_targetBefore) v1 v2 := by
  unfold wpX_isToken
  dsimp only
  refine xm_isf _ (fun hn => br_t rfl (h0 (fun ⟨f, x, a, _, c, _⟩ => hn ⟨f, a, c⟩))) (fun f hf e => br_f (by decide) ?_)
  subst e
  have l := hT.1 f hf
  have cF : (nI f).toNatClampNeg = f := nI_clamp (by omega)
  rw [cF, hr.1 f hf]
  refine br_c (fun h => h0 (fun ⟨f', x, a, _, c, d⟩ => ?_)) (fun h => ⟨vp_in_nI (by omega) (by omega), br_c (fun h' => h0 (fun ⟨f', x, a, b, c, d⟩ => ?_)) (fun h' => ?_)⟩)
  · subst d
    have := hT.1 f' a
    exact nI_pos (by omega) h
  · subst d
    have e := (nI_eq (by omega) (by omega)).mp c
    subst e
    exact nI_ge b (by omega) h'
  · obtain ⟨x, x1, x2⟩ := ba_ix (n := L f) (by omega) h h'
    exact h1 f x hf x1 rfl x2
end
section
variable {f_np f_built f_some f_empty f_wn f_nt : Int32} {a_pRule a_pScope a_pLen a_sym a_role a_first a_follow a_kind a_val a_len a_word a_reach a_beyond a_way a_known a_bad a_part a_scopes a_inner a_tRule a_tFrom a_tTo a_before : Nat → Int32} {G : gm_G} {L K V : Nat → Nat} {b : Bool}
theorem ym_tok (hT : tx_ok L K V) (hr : rx_t L K V a_len a_kind a_val) {v1 v2 : Int32} {v : SY} {A B : Prop} (h0 : ¬ tk_ok L v1 v2 → A) (h1 : ∀ f x, f < 4 → x < L f → v1 = nI f → v2 = nI x → B) : wpY_isFile (fun r_1 => (r_1 = 0 → A) ∧ (¬ r_1 = 0 → (v2 < 0 → A) ∧ (¬ v2 < 0 → vp_in v1 4 ∧ (v2 < a_len v1.toNatClampNeg → B) ∧ (¬ v2 < a_len v1.toNatClampNeg → A)))) v v1 := by
  refine ym_isf _ (fun hn => br_t rfl (h0 (fun ⟨f, x, a, _, c, _⟩ => hn ⟨f, a, c⟩))) (fun f hf e => br_f (by decide) ?_)
  subst e
  have l := hT.1 f hf
  have cF : (nI f).toNatClampNeg = f := nI_clamp (by omega)
  rw [cF, hr.1 f hf]
  refine br_c (fun h => h0 (fun ⟨f', x, a, _, c, d⟩ => ?_)) (fun h => ⟨vp_in_nI (by omega) (by omega), br_c (fun h' => ?_) (fun h' => h0 (fun ⟨f', x, a, b, c, d⟩ => ?_))⟩)
  · subst d
    have := hT.1 f' a
    exact nI_pos (by omega) h
  · obtain ⟨x, x1, x2⟩ := ba_ix (n := L f) (by omega) h (ba_lp h')
    exact h1 f x hf x1 rfl x2
  · subst d
    have e := (nI_eq (by omega) (by omega)).mp c
    subst e
    exact h' (nI_lt b (by omega))
end
/-! token -/
theorem i_vc_token {k : Nat} {u : SX} {v : SY} (I : i_Rel k u v) (hk : k + 5 ≤ 2560) (v1 : Int32) (v2 : Int32) : wpX_token (fun r => wpY_token (fun r' => r' = r ∧ i_Rel (k + 5) u v) v v1 v2) u v1 v2 := by
  have I0 := I
  obtain ⟨b, G, L, K, V, hp, hX, hY⟩ := I
  obtain ⟨f_built, f_productionCount, f_depth, a_ruleOf, a_marked, a_symbolCount, a_symbols, a_roles, a_derives, a_first, a_follow, a_textLength, a_kindAt, a_valueAt, a_failsAt, a_expectedAt, a_roleAt, a_scopeAt, a_openProduction, a_openNext, a_openStart, a_targetBefore⟩ := u
  obtain ⟨g_np, g_built, g_some, g_empty, g_wn, g_nt, b_pRule, b_pScope, b_pLen, b_sym, b_role, b_first, b_follow, b_kind, b_val, b_len, b_word, b_reach, b_beyond, b_way, b_known, b_bad, b_part, b_scopes, b_inner, b_tRule, b_tFrom, b_tTo, b_before⟩ := v
  obtain ⟨x1, x2, x3, x4, x5⟩ := hX
  obtain ⟨y1, y2, y3, y4⟩ := hY
  unfold wpX_token wpY_token
  dsimp only
  refine xm_tok hp.2.1 x3 _ (fun hn => br_t rfl (ym_tok hp.2.1 y3 (fun _ => ⟨rfl, I0⟩) (fun f x a b c d => absurd ⟨f, x, a, b, c, d⟩ hn))) (fun f x hf hx e1 e2 => br_f (by decide) ?_)
  subst e1 e2
  have l := hp.2.1.1 f hf
  have cI : (nI (f * 20 + x)).toNatClampNeg = f * 20 + x := nI_clamp (by omega)
  have iI : vp_in (nI (f * 20 + x)) 80 := vp_in_nI (by omega) (by omega)
  refine nm_r (ba_x20 f x) ?_
  rw [cI]
  refine ⟨iI, iI, ym_tok hp.2.1 y3 (fun hn => absurd ⟨f, x, hf, hx, rfl, rfl⟩ hn) (fun f' x' a b c d => ?_)⟩
  rw [ba_20x, cI]
  refine ⟨iI, iI, ?_, I0⟩
  rw [(x3.2 _ (by omega)).1, (x3.2 _ (by omega)).2, (y3.2 _ (by omega)).1, (y3.2 _ (by omega)).2]
/-! put -/
def pt_ok (b : Bool) (L : Nat → Nat) (v1 v2 v3 v4 : Int32) : Prop := b = true ∧ ∃ f x c d, f < 4 ∧ x ≤ L f ∧ x < 20 ∧ c < 10 ∧ d < 16 ∧ v1 = nI f ∧ v2 = nI x ∧ v3 = nI c ∧ v4 = nI d
def pu_L (L : Nat → Nat) (f x : Nat) : Nat → Nat := if x = L f then ud L f (x + 1) else L
theorem pu_Lo {L : Nat → Nat} {f x g : Nat} (h : g ≠ f) : pu_L L f x g = L g := by
  unfold pu_L
  split
  · exact ud_n h
  · rfl
theorem pu_ok {L K V : Nat → Nat} {f x c d : Nat} (hT : tx_ok L K V) (hf : f < 4) (hx : x < 20) (hc : c < 10) (hd : d < 16) : tx_ok (pu_L L f x) (ud K (f * 20 + x) c) (ud V (f * 20 + x) d) := by
  refine ⟨fun g hg => ?_, fun y hy => ⟨?_, ?_⟩⟩
  · unfold pu_L
    split
    · unfold ud
      split
      · omega
      · exact hT.1 g hg
    · exact hT.1 g hg
  · unfold ud; split
    · exact hc
    · exact (hT.2 y hy).1
  · unfold ud; split
    · exact hd
    · exact (hT.2 y hy).2
theorem pu_t {L K V : Nat → Nat} {f x c d : Nat} {A1 A2 A3 : Nat → Int32} (h : rx_t L K V A1 A2 A3) : rx_t (pu_L L f x) (ud K (f * 20 + x) c) (ud V (f * 20 + x) d) (if x = L f then upd A1 f (nI (x + 1)) else A1) (upd A2 (f * 20 + x) (nI c)) (upd A3 (f * 20 + x) (nI d)) := by
  refine ⟨fun g hg => ?_, fun y hy => ⟨?_, ?_⟩⟩
  · unfold pu_L
    split
    · unfold ud; rw [ba_up]; split
      · rfl
      · exact h.1 g hg
    · exact h.1 g hg
  · unfold ud; rw [ba_up]; split
    · rfl
    · exact (h.2 y hy).1
  · unfold ud; rw [ba_up]; split
    · rfl
    · exact (h.2 y hy).2
section
variable {f_built f_productionCount f_depth : Int32} {a_ruleOf a_marked a_symbolCount a_symbols a_roles a_derives a_first a_follow a_textLength a_kindAt a_valueAt a_failsAt a_expectedAt a_roleAt a_scopeAt a_openProduction a_openNext a_openStart a_targetBefore : Nat → Int32} {G : gm_G} {L K V : Nat → Nat} {b : Bool}
theorem xm_put0 (hT : tx_ok L K V) (hb : f_built = rb b) (hr : rx_t L K V a_textLength a_kindAt a_valueAt) {v1 v2 v3 v4 : Int32} (hn : ¬ pt_ok b L v1 v2 v3 v4) (post : Int32 → SX → Prop) (hP : post 0 (f_built, f_productionCount, f_depth, a_ruleOf, a_marked, a_symbolCount, a_symbols, a_roles, a_derives, a_first, a_follow, a_textLength, a_kindAt, a_valueAt, a_failsAt, a_expectedAt, a_roleAt, a_scopeAt, a_openProduction, a_openNext, a_openStart, a_targetBefore)) : wpX_put post (f_built, f_productionCount, f_depth, a_ruleOf, a_marked, a_symbolCount, a_symbols, a_roles, a_derives, a_first, a_follow, a_textLength, a_kindAt, a_valueAt, a_failsAt, a_expectedAt, a_roleAt, a_scopeAt, a_openProduction, a_openNext, a_openStart, a_targetBefore) v1 v2 v3 v4 := by
  unfold wpX_put
  dsimp only
  refine br_c (fun _ => hP) (fun h1 => xm_isf _ (fun _ => br_t rfl hP) (fun f hf e => br_f (by decide) ?_))
  subst e
  have l := hT.1 f hf
  have cF : (nI f).toNatClampNeg = f := nI_clamp (by omega)
  rw [cF, hr.1 f hf]
  refine br_c (fun _ => hP) (fun h2 => ⟨vp_in_nI (by omega) (by omega), br_c (fun _ => hP) (fun h3 => br_c (fun h4 => br_c (fun _ => hP) (fun h5 => br_c (fun _ => hP) (fun h6 => br_c (fun _ => hP) (fun h7 => br_c (fun h8 => ?_) (fun _ => hP))))) (fun _ => hP))⟩)
  exfalso
  have hbt : b = true := by
    cases b with
    | true => rfl
    | false => rw [hb] at h1; exact absurd rfl h1
  obtain ⟨x, x1, x2⟩ := ba_ix (n := 20) (by omega) h2 (ba_lp h4)
  obtain ⟨c, c1, c2⟩ := ba_ix (n := 10) (by omega) h5 h6
  obtain ⟨d, d1, d2⟩ := ba_ix (n := 16) (by omega) h7 (ba_lp h8)
  refine hn ⟨hbt, f, x, c, d, hf, ?_, x1, c1, d1, rfl, x2, c2, d2⟩
  subst x2
  rcases Nat.lt_or_ge (L f) x with z | z
  · exact absurd (nI_lt z (by omega)) h3
  · exact z
theorem xm_put1 (hG : gm_gd G) (hT : tx_ok L K V) (hb : f_built = 1) (hx : xg_ok G f_productionCount a_ruleOf a_marked a_symbolCount a_symbols a_roles) (hr : rx_t L K V a_textLength a_kindAt a_valueAt) (hB : ∀ n, n < 6 → gm_ms (a_first n) (fun t => t ≤ 10 ∧ gm_FU G t n)) (hF : ∀ f, f < 4 → rx_f G L K f a_failsAt a_expectedAt a_roleAt a_scopeAt) {f x c d : Nat} (hf : f < 4) (hxl : x ≤ L f) (hx20 : x < 20) (hc : c < 10) (hd : d < 16) (post : Int32 → SX → Prop) (hP : ∀ u, rx_R true G (pu_L L f x) (ud K (f * 20 + x) c) (ud V (f * 20 + x) d) u → post 1 u) : wpX_put post (f_built, f_productionCount, f_depth, a_ruleOf, a_marked, a_symbolCount, a_symbols, a_roles, a_derives, a_first, a_follow, a_textLength, a_kindAt, a_valueAt, a_failsAt, a_expectedAt, a_roleAt, a_scopeAt, a_openProduction, a_openNext, a_openStart, a_targetBefore) (nI f) (nI x) (nI c) (nI d) := by
  have l := hT.1 f hf
  have cF : (nI f).toNatClampNeg = f := nI_clamp (by omega)
  have iF : vp_in (nI f) 4 := vp_in_nI (by omega) (by omega)
  have cI : (nI (f * 20 + x)).toNatClampNeg = f * 20 + x := nI_clamp (by omega)
  have iI : vp_in (nI (f * 20 + x)) 80 := vp_in_nI (by omega) (by omega)
  have hT' := pu_ok (K := K) (V := V) (c := c) (d := d) hT hf hx20 hc hd
  have hr' := pu_t (f := f) (x := x) (c := c) (d := d) hr
  have fin : ∀ TL, TL = (if x = L f then upd a_textLength f (nI (x + 1)) else a_textLength) → wX_put_104 post (nI f) f_built f_productionCount f_depth a_ruleOf a_marked a_symbolCount a_symbols a_roles a_derives a_first a_follow TL (upd a_kindAt (f * 20 + x) (nI c)) (upd a_valueAt (f * 20 + x) (nI d)) a_failsAt a_expectedAt a_roleAt a_scopeAt a_openProduction a_openNext a_openStart a_targetBefore := by
    intro TL hTL
    rw [← hTL] at hr'
    unfold wX_put_104
    refine xm_parse hG hT' hx hr' hB hf _ (fun d FA EX RO SC OP ON OS h1 h2 => hP _ ⟨hb, hx, hr', fun _ => ⟨hB, fun g hg => ?_⟩, fun h => nomatch h⟩)
    rcases Classical.em (g = f) with e | e
    · subst e; exact h1
    · refine h2 g hg e (rx_fg (pu_Lo e) (fun y hy => ud_n ?_) (hF g hg))
      have := hT.1 g hg
      omega
  unfold wpX_put
  dsimp only
  refine br_f (by rw [hb]; decide) (xm_isf _ (fun hn => absurd ⟨f, hf, rfl⟩ hn) (fun _ _ _ => br_f (by decide) ?_))
  rw [cF, hr.1 f hf]
  refine br_f (nI_pos (by omega)) ⟨iF, br_f (nI_nlt hxl (by omega)) (br_t (nI_lt (b := 20) hx20 (by omega)) (br_f (nI_pos (by omega)) (br_f (nI_ge (b := 10) hc (by omega)) (br_f (nI_pos (by omega)) (br_t (nI_lt (b := 16) hd (by omega)) (nm_r (ba_x20 f x) ?_))))))⟩
  rw [cI]
  refine ⟨iI, nm_e ⟨iI, nm_e ⟨iF, pk_eq x (L f) (fun e => ⟨iF, nm_r (congrArg _ (nI_1 x)) (fin _ (if_pos e).symm)⟩) (fun e => fin _ (if_neg e).symm)⟩⟩⟩
end
section
variable {f_np f_built f_some f_empty f_wn f_nt : Int32} {a_pRule a_pScope a_pLen a_sym a_role a_first a_follow a_kind a_val a_len a_word a_reach a_beyond a_way a_known a_bad a_part a_scopes a_inner a_tRule a_tFrom a_tTo a_before : Nat → Int32} {G : gm_G} {L K V : Nat → Nat} {b : Bool}
theorem ym_put0 (hT : tx_ok L K V) (hb : f_built = rb b) (hr : rx_t L K V a_len a_kind a_val) {v1 v2 v3 v4 : Int32} (hn : ¬ pt_ok b L v1 v2 v3 v4) (post : Int32 → SY → Prop) (hP : post 0 (f_np, f_built, f_some, f_empty, f_wn, f_nt, a_pRule, a_pScope, a_pLen, a_sym, a_role, a_first, a_follow, a_kind, a_val, a_len, a_word, a_reach, a_beyond, a_way, a_known, a_bad, a_part, a_scopes, a_inner, a_tRule, a_tFrom, a_tTo, a_before)) : wpY_put post (f_np, f_built, f_some, f_empty, f_wn, f_nt, a_pRule, a_pScope, a_pLen, a_sym, a_role, a_first, a_follow, a_kind, a_val, a_len, a_word, a_reach, a_beyond, a_way, a_known, a_bad, a_part, a_scopes, a_inner, a_tRule, a_tFrom, a_tTo, a_before) v1 v2 v3 v4 := by
  unfold wpY_put
  dsimp only
  refine br_c (fun _ => hP) (fun h1 => ym_isf _ (fun _ => br_t rfl hP) (fun f hf e => br_f (by decide) ?_))
  subst e
  have l := hT.1 f hf
  have cF : (nI f).toNatClampNeg = f := nI_clamp (by omega)
  rw [cF, hr.1 f hf]
  refine br_c (fun _ => hP) (fun h2 => ⟨vp_in_nI (by omega) (by omega), br_c (fun _ => hP) (fun h3 => br_c (fun _ => hP) (fun h5 => br_c (fun _ => hP) (fun h6 => br_c (fun _ => hP) (fun h7 => br_c (fun _ => hP) (fun h8 => br_c (fun _ => hP) (fun h4 => ?_))))))⟩)
  exfalso
  have hbt : b = true := by
    cases b with
    | true => rfl
    | false => rw [hb] at h1; exact absurd rfl h1
  obtain ⟨x, x0, x2⟩ := nI_of h2
  obtain ⟨c, c1, c2⟩ := ba_ix (n := 10) (by omega) h5 (fun q => h6 (Int32.lt_of_lt_of_le (by decide) q))
  obtain ⟨d, d1, d2⟩ := ba_ix (n := 16) (by omega) h7 (fun q => h8 (Int32.lt_of_lt_of_le (by decide) q))
  subst x2
  have xl : x ≤ L f := by
    rcases Nat.lt_or_ge (L f) x with z | z
    · exact absurd (nI_lt z (by omega)) h3
    · exact z
  have x20 : x ≠ 20 := fun e => by subst e; exact h4 rfl
  exact hn ⟨hbt, f, x, c, d, hf, xl, by omega, c1, d1, rfl, rfl, c2, d2⟩
theorem ym_put1 (hT : tx_ok L K V) (hY : ry_R true G L K V (f_np, f_built, f_some, f_empty, f_wn, f_nt, a_pRule, a_pScope, a_pLen, a_sym, a_role, a_first, a_follow, a_kind, a_val, a_len, a_word, a_reach, a_beyond, a_way, a_known, a_bad, a_part, a_scopes, a_inner, a_tRule, a_tFrom, a_tTo, a_before)) {f x c d : Nat} (hf : f < 4) (hxl : x ≤ L f) (hx20 : x < 20) (hc : c < 10) (hd : d < 16) (post : Int32 → SY → Prop) (hP : ∀ v, ry_R true G (pu_L L f x) (ud K (f * 20 + x) c) (ud V (f * 20 + x) d) v → post 1 v) : wpY_put post (f_np, f_built, f_some, f_empty, f_wn, f_nt, a_pRule, a_pScope, a_pLen, a_sym, a_role, a_first, a_follow, a_kind, a_val, a_len, a_word, a_reach, a_beyond, a_way, a_known, a_bad, a_part, a_scopes, a_inner, a_tRule, a_tFrom, a_tTo, a_before) (nI f) (nI x) (nI c) (nI d) := by
  obtain ⟨y1, y2, y3, y4⟩ := hY
  have l := hT.1 f hf
  have cF : (nI f).toNatClampNeg = f := nI_clamp (by omega)
  have iF : vp_in (nI f) 4 := vp_in_nI (by omega) (by omega)
  have cI : (nI (f * 20 + x)).toNatClampNeg = f * 20 + x := nI_clamp (by omega)
  have iI : vp_in (nI (f * 20 + x)) 80 := vp_in_nI (by omega) (by omega)
  have hr' := pu_t (f := f) (x := x) (c := c) (d := d) y3
  have fin : ∀ LE, LE = (if x = L f then upd a_len f (nI (x + 1)) else a_len) → ry_R true G (pu_L L f x) (ud K (f * 20 + x) c) (ud V (f * 20 + x) d) (f_np, f_built, f_some, f_empty, f_wn, f_nt, a_pRule, a_pScope, a_pLen, a_sym, a_role, a_first, a_follow, upd a_kind (f * 20 + x) (nI c), upd a_val (f * 20 + x) (nI d), LE, a_word, a_reach, a_beyond, a_way, upd a_known f 0, a_bad, a_part, a_scopes, a_inner, a_tRule, a_tFrom, a_tTo, a_before) := by
    intro LE hLE
    rw [← hLE] at hr'
    refine ⟨y1, y2, hr', fun g hg => ?_⟩
    rcases Classical.em (g = f) with e | e
    · subst e; exact Or.inl pk_us
    · show upd a_known f 0 g = 0 ∨ _ ∧ upd a_known f 0 g = 1 ∧ _
      rw [pk_un e]
      rcases y4 g hg with z | ⟨z1, z2, z3⟩
      · exact Or.inl z
      · refine Or.inr ⟨z1, z2, ry_fg (pu_Lo e) (fun y hy => ud_n ?_) z3⟩
        have := hT.1 g hg
        omega
  unfold wpY_put
  dsimp only
  refine br_f (by rw [y1]; decide) (ym_isf _ (fun hn => absurd ⟨f, hf, rfl⟩ hn) (fun _ _ _ => br_f (by decide) ?_))
  rw [cF, y3.1 f hf, ba_20x, cI, ba_nb c (by omega), ba_vb (k := c) (by omega), ba_nb d (by omega), ba_vb (k := d) (by omega)]
  refine br_f (nI_pos (by omega)) ⟨iF, br_f (nI_nlt hxl (by omega)) (br_f (nI_pos (by omega)) (br_f (nI_nlt (a := 9) (b := c) (by omega) (by omega)) (br_f (nI_pos (by omega)) (br_f (nI_nlt (a := 15) (b := d) (by omega) (by omega)) (br_f (fun q => ?_) ⟨iI, nm_e ⟨iI, nm_e ⟨iF, pk_eq x (L f) (fun e => ⟨iF, iF, nm_r (congrArg _ (by rw [nI_1, ba_nb _ (by omega), ba_vb (by omega), e])) ⟨iF, nm_r (congrArg _ ba_bool0) (hP _ (fin _ (if_pos e).symm))⟩⟩) (fun e => ⟨iF, nm_r (congrArg _ ba_bool0) (hP _ (fin _ (if_neg e).symm))⟩)⟩⟩⟩)))))⟩
  have := (nI_eq (a := x) (b := 20) (by omega) (by omega)).mp q
  omega
end
theorem i_vc_put {k : Nat} {u : SX} {v : SY} (I : i_Rel k u v) (hk : k + 5 ≤ 2560) (v1 : Int32) (v2 : Int32) (v3 : Int32) (v4 : Int32) : wpX_put (fun r u' => wpY_put (fun r' v' => r' = r ∧ i_Rel (k + 5) u' v') v v1 v2 v3 v4) u v1 v2 v3 v4 := by
  have I0 := I
  obtain ⟨b, G, L, K, V, hp, hX, hY⟩ := I
  obtain ⟨f_built, f_productionCount, f_depth, a_ruleOf, a_marked, a_symbolCount, a_symbols, a_roles, a_derives, a_first, a_follow, a_textLength, a_kindAt, a_valueAt, a_failsAt, a_expectedAt, a_roleAt, a_scopeAt, a_openProduction, a_openNext, a_openStart, a_targetBefore⟩ := u
  obtain ⟨g_np, g_built, g_some, g_empty, g_wn, g_nt, b_pRule, b_pScope, b_pLen, b_sym, b_role, b_first, b_follow, b_kind, b_val, b_len, b_word, b_reach, b_beyond, b_way, b_known, b_bad, b_part, b_scopes, b_inner, b_tRule, b_tFrom, b_tTo, b_before⟩ := v
  have hY0 := hY
  obtain ⟨x1, x2, x3, x4, x5⟩ := hX
  obtain ⟨y1, y2, y3, y4⟩ := hY
  rcases Classical.em (pt_ok b L v1 v2 v3 v4) with ⟨hb, f, x, c, d, a1, a2, a3, a4, a5, a6, a7, a8, a9⟩ | hn
  · subst hb a6 a7 a8 a9
    obtain ⟨b1, b2⟩ := x4 rfl
    have hG := hp.2.2.1 rfl
    exact xm_put1 hG hp.2.1 x1 x2 x3 b1 b2 a1 a2 a3 a4 a5 _ (fun u' hu => ym_put1 hp.2.1 hY0 a1 a2 a3 a4 a5 _ (fun v' hv => ⟨rfl, true, G, _, _, _, ⟨hp.1, pu_ok hp.2.1 a1 a3 a4 a5, fun _ => hG, fun h => nomatch h⟩, hu, hv⟩))
  · exact xm_put0 hp.2.1 x1 x3 hn _ (ym_put0 hp.2.1 y1 y3 hn _ ⟨rfl, I0⟩)
/-! delete -/
def dl_s (f x l : Nat) (K : Nat → Nat) : Nat → Nat := fun y => if f * 20 + x ≤ y ∧ y < f * 20 + l - 1 then K (y + 1) else K y
theorem dl_ok {L K V : Nat → Nat} {f x : Nat} (hT : tx_ok L K V) (hf : f < 4) (hx : x < L f) : tx_ok (ud L f (L f - 1)) (dl_s f x (L f) K) (dl_s f x (L f) V) := by
  have l := hT.1 f hf
  refine ⟨fun g hg => ?_, fun y hy => ⟨?_, ?_⟩⟩
  · unfold ud; split
    · omega
    · exact hT.1 g hg
  · unfold dl_s; split
    · exact (hT.2 _ (by omega)).1
    · exact (hT.2 y hy).1
  · unfold dl_s; split
    · exact (hT.2 _ (by omega)).2
    · exact (hT.2 y hy).2
theorem dl_o {f x l g y : Nat} {K : Nat → Nat} (hl : l ≤ 20) (hg : g ≠ f) (hy : y < 20) : dl_s f x l K (g * 20 + y) = K (g * 20 + y) := if_neg (by omega)
section
variable {f_built f_productionCount f_depth : Int32} {a_ruleOf a_marked a_symbolCount a_symbols a_roles a_derives a_first a_follow a_textLength a_kindAt a_valueAt a_failsAt a_expectedAt a_roleAt a_scopeAt a_openProduction a_openNext a_openStart a_targetBefore : Nat → Int32} {G : gm_G} {L K V : Nat → Nat} {b : Bool}
theorem xm_d33 {f x : Nat} (hT : tx_ok L K V) (hf : f < 4) (hx : x < L f) (hr : ∀ y, y < 80 → a_kindAt y = nI (K y) ∧ a_valueAt y = nI (V y)) (hl : a_textLength f = nI (L f)) (post : Int32 → SX → Prop) (hP : ∀ KA VA, (∀ y, y < 80 → KA y = nI (dl_s f x (L f) K y) ∧ VA y = nI (dl_s f x (L f) V y)) → wpX_parse (fun u => match u with | (f_built, f_productionCount, f_depth, a_ruleOf, a_marked, a_symbolCount, a_symbols, a_roles, a_derives, a_first, a_follow, a_textLength, a_kindAt, a_valueAt, a_failsAt, a_expectedAt, a_roleAt, a_scopeAt, a_openProduction, a_openNext, a_openStart, a_targetBefore) => post 1 (f_built, f_productionCount, f_depth, a_ruleOf, a_marked, a_symbolCount, a_symbols, a_roles, a_derives, a_first, a_follow, a_textLength, a_kindAt, a_valueAt, a_failsAt, a_expectedAt, a_roleAt, a_scopeAt, a_openProduction, a_openNext, a_openStart, a_targetBefore)) (f_built, f_productionCount, f_depth, a_ruleOf, a_marked, a_symbolCount, a_symbols, a_roles, a_derives, a_first, a_follow, upd a_textLength f (nI (L f - 1)), KA, VA, a_failsAt, a_expectedAt, a_roleAt, a_scopeAt, a_openProduction, a_openNext, a_openStart, a_targetBefore) (nI f)) :
    ∀ d q KA VA, q + d = f * 20 + L f - 1 → f * 20 + x ≤ q → (∀ y, y < 80 → KA y = nI (if f * 20 + x ≤ y ∧ y < q then K (y + 1) else K y) ∧ VA y = nI (if f * 20 + x ≤ y ∧ y < q then V (y + 1) else V y)) → wX_delete_33 post (nI f) (nI (f * 20 + L f - 1)) f_built f_productionCount f_depth (d + 1) (nI q) a_ruleOf a_marked a_symbolCount a_symbols a_roles a_derives a_first a_follow a_textLength KA VA a_failsAt a_expectedAt a_roleAt a_scopeAt a_openProduction a_openNext a_openStart a_targetBefore := by
  have l := hT.1 f hf
  have cF : (nI f).toNatClampNeg = f := nI_clamp (by omega)
  have iF : vp_in (nI f) 4 := vp_in_nI (by omega) (by omega)
  intro d
  induction d with
  | zero =>
    intro q KA VA hq hxq hI
    have e : q = f * 20 + L f - 1 := by omega
    subst e
    rw [wX_delete_33]
    dsimp only
    rw [cF, hl]
    exact br_t (nI_le (by omega) (by omega)) ⟨iF, iF, nm_r (congrArg _ (ba_m1 (by omega))) (hP KA VA hI)⟩
  | succ d ih =>
    intro q KA VA hq hxq hI
    have c1 : (nI q).toNatClampNeg = q := nI_clamp (by omega)
    have c2 : (nI (q + 1)).toNatClampNeg = q + 1 := nI_clamp (by omega)
    have i1 : vp_in (nI q) 80 := vp_in_nI (by omega) (by omega)
    have i2 : vp_in (nI (q + 1)) 80 := vp_in_nI (by omega) (by omega)
    have h1 := hI (q + 1) (by omega)
    rw [if_neg (by omega), if_neg (by omega)] at h1
    rw [wX_delete_33]
    dsimp only
    rw [nI_1 q, c1, c2, h1.1, h1.2]
    refine br_f (nI_ge (by omega) (by omega)) ⟨i2, i1, nm_e ⟨i2, i1, nm_e (nm_e (ih (q + 1) _ _ (by omega) (by omega) (fun y hy => ?_)))⟩⟩
    rcases Classical.em (y = q) with e | e
    · subst e
      rw [pk_us, pk_us, if_pos ⟨by omega, by omega⟩, if_pos ⟨by omega, by omega⟩]
      exact ⟨rfl, rfl⟩
    · rw [pk_un e, pk_un e]
      have q1 : (f * 20 + x ≤ y ∧ y < q) ↔ (f * 20 + x ≤ y ∧ y < q + 1) := by omega
      refine ⟨(hI y hy).1.trans (congrArg nI (ba_if q1)), (hI y hy).2.trans (congrArg nI (ba_if q1))⟩
end
section
variable {f_np f_built f_some f_empty f_wn f_nt : Int32} {a_pRule a_pScope a_pLen a_sym a_role a_first a_follow a_kind a_val a_len a_word a_reach a_beyond a_way a_known a_bad a_part a_scopes a_inner a_tRule a_tFrom a_tTo a_before : Nat → Int32} {G : gm_G} {L K V : Nat → Nat} {b : Bool}
theorem ym_d31 {f x : Nat} (hT : tx_ok L K V) (hf : f < 4) (hx : x < L f) (hl : a_len f = nI (L f)) (post : Int32 → SY → Prop) (hP : ∀ KA VA, (∀ y, y < 80 → KA y = nI (dl_s f x (L f) K y) ∧ VA y = nI (dl_s f x (L f) V y)) → post 1 (f_np, f_built, f_some, f_empty, f_wn, f_nt, a_pRule, a_pScope, a_pLen, a_sym, a_role, a_first, a_follow, KA, VA, upd a_len f (nI (L f - 1)), a_word, a_reach, a_beyond, a_way, upd a_known f 0, a_bad, a_part, a_scopes, a_inner, a_tRule, a_tFrom, a_tTo, a_before)) :
    ∀ d q KA VA, q + d = f * 20 + L f - 1 → f * 20 + x ≤ q → (∀ y, y < 80 → KA y = nI (if f * 20 + x ≤ y ∧ y < q then K (y + 1) else K y) ∧ VA y = nI (if f * 20 + x ≤ y ∧ y < q then V (y + 1) else V y)) → wY_delete_31 post (nI f) f_np f_built f_some f_empty f_wn f_nt (d + 1) (nI q) a_pRule a_pScope a_pLen a_sym a_role a_first a_follow KA VA a_len a_word a_reach a_beyond a_way a_known a_bad a_part a_scopes a_inner a_tRule a_tFrom a_tTo a_before := by
  have l := hT.1 f hf
  have cF : (nI f).toNatClampNeg = f := nI_clamp (by omega)
  have iF : vp_in (nI f) 4 := vp_in_nI (by omega) (by omega)
  have el : (20 * nI f + nI (L f)) - 1 = nI (f * 20 + L f - 1) := by rw [ba_20x, ba_m1 (by omega)]
  intro d
  induction d with
  | zero =>
    intro q KA VA hq hxq hI
    have e : q = f * 20 + L f - 1 := by omega
    subst e
    rw [wY_delete_31]
    dsimp only
    rw [cF, hl, el]
    exact ⟨iF, br_t (nI_le (by omega) (by omega)) ⟨iF, iF, nm_r (congrArg _ (by rw [ba_m1 (by omega), ba_nb _ (by omega), ba_vb (by omega)])) ⟨iF, nm_r (congrArg _ ba_bool0) (hP KA VA hI)⟩⟩⟩
  | succ d ih =>
    intro q KA VA hq hxq hI
    have c1 : (nI q).toNatClampNeg = q := nI_clamp (by omega)
    have c2 : (nI (q + 1)).toNatClampNeg = q + 1 := nI_clamp (by omega)
    have i1 : vp_in (nI q) 80 := vp_in_nI (by omega) (by omega)
    have i2 : vp_in (nI (q + 1)) 80 := vp_in_nI (by omega) (by omega)
    have h1 := hI (q + 1) (by omega)
    rw [if_neg (by omega), if_neg (by omega)] at h1
    have hk := hT.2 (q + 1) (by omega)
    rw [wY_delete_31]
    dsimp only
    rw [cF, hl, el, nI_1 q, c1, c2, h1.1, h1.2, ba_vb (k := K (q + 1)) (by omega), ba_vb (k := V (q + 1)) (by omega)]
    refine ⟨iF, br_f (nI_ge (by omega) (by omega)) ⟨i2, i1, nm_e ⟨i2, i1, nm_e (nm_e (ih (q + 1) _ _ (by omega) (by omega) (fun y hy => ?_)))⟩⟩⟩
    rcases Classical.em (y = q) with e | e
    · subst e
      rw [pk_us, pk_us, if_pos ⟨by omega, by omega⟩, if_pos ⟨by omega, by omega⟩]
      exact ⟨rfl, rfl⟩
    · rw [pk_un e, pk_un e]
      have q1 : (f * 20 + x ≤ y ∧ y < q) ↔ (f * 20 + x ≤ y ∧ y < q + 1) := by omega
      refine ⟨(hI y hy).1.trans (congrArg nI (ba_if q1)), (hI y hy).2.trans (congrArg nI (ba_if q1))⟩
end
theorem i_vc_delete {k : Nat} {u : SX} {v : SY} (I : i_Rel k u v) (hk : k + 5 ≤ 2560) (v1 : Int32) (v2 : Int32) : wpX_delete (fun r u' => wpY_delete (fun r' v' => r' = r ∧ i_Rel (k + 5) u' v') v v1 v2) u v1 v2 := by
  have I0 := I
  obtain ⟨b, G, L, K, V, hp, hX, hY⟩ := I
  obtain ⟨f_built, f_productionCount, f_depth, a_ruleOf, a_marked, a_symbolCount, a_symbols, a_roles, a_derives, a_first, a_follow, a_textLength, a_kindAt, a_valueAt, a_failsAt, a_expectedAt, a_roleAt, a_scopeAt, a_openProduction, a_openNext, a_openStart, a_targetBefore⟩ := u
  obtain ⟨g_np, g_built, g_some, g_empty, g_wn, g_nt, b_pRule, b_pScope, b_pLen, b_sym, b_role, b_first, b_follow, b_kind, b_val, b_len, b_word, b_reach, b_beyond, b_way, b_known, b_bad, b_part, b_scopes, b_inner, b_tRule, b_tFrom, b_tTo, b_before⟩ := v
  obtain ⟨x1, x2, x3, x4, x5⟩ := hX
  obtain ⟨y1, y2, y3, y4⟩ := hY
  unfold wpX_delete wpY_delete
  dsimp only
  refine xm_tok hp.2.1 x3 _ (fun hn => br_t rfl (ym_tok hp.2.1 y3 (fun _ => ⟨rfl, I0⟩) (fun f x a b c d => absurd ⟨f, x, a, b, c, d⟩ hn))) (fun f x hf hx e1 e2 => br_f (by decide) ?_)
  subst e1 e2
  have l := hp.2.1.1 f hf
  have hbt : b = true := by
    cases b with
    | true => rfl
    | false =>
      have := hp.2.2.2 rfl f hf
      omega
  subst hbt
  have hG := hp.2.2.1 rfl
  obtain ⟨b1, b2⟩ := x4 rfl
  have cF : (nI f).toNatClampNeg = f := nI_clamp (by omega)
  have iF : vp_in (nI f) 4 := vp_in_nI (by omega) (by omega)
  have hT' := dl_ok hp.2.1 hf hx
  refine ⟨iF, nm_r (by rw [cF, x3.1 f hf, ba_x20, ba_m1 (by omega)]) (nm_r (ba_x20 f x) ⟨L f - 1 - x + 1, ?_⟩)⟩
  refine xm_d33 hp.2.1 hf hx x3.2 (x3.1 f hf) _ (fun KA VA hKV => ?_) (L f - 1 - x) (f * 20 + x) a_kindAt a_valueAt (by omega) (Nat.le_refl _) (fun y hy => ?_)
  · have hr' : rx_t (ud L f (L f - 1)) (dl_s f x (L f) K) (dl_s f x (L f) V) (upd a_textLength f (nI (L f - 1))) KA VA := by
      refine ⟨fun g hg => ?_, hKV⟩
      unfold ud; rw [ba_up]; split
      · rfl
      · exact x3.1 g hg
    refine xm_parse hG hT' x2 hr' b1 hf _ (fun d FA EX RO SC OP ON OS h1 h2 => ?_)
    dsimp only
    have hXg : ∀ g, g < 4 → rx_f G (ud L f (L f - 1)) (dl_s f x (L f) K) g FA EX RO SC := fun g hg => by
      rcases Classical.em (g = f) with e | e
      · subst e; exact h1
      · have lg := hp.2.1.1 g hg
        exact h2 g hg e (rx_fg (ud_n e) (fun y hy => dl_o l e (by omega)) (b2 g hg))
    have hYl : ∀ g, g < 4 → upd b_len f (nI (L f - 1)) g = nI (ud L f (L f - 1) g) := fun g hg => by
      unfold ud; rw [ba_up]; split
      · rfl
      · exact y3.1 g hg
    have hYg : ∀ g, g < 4 → upd b_known f 0 g = 0 ∨ (true = true ∧ upd b_known f 0 g = 1 ∧ ry_f G (ud L f (L f - 1)) (dl_s f x (L f) K) g b_bad b_part b_inner b_scopes) := fun g hg => by
      rcases Classical.em (g = f) with e | e
      · subst e; exact Or.inl pk_us
      · rw [pk_un e]
        rcases y4 g hg with z | ⟨z1, z2, z3⟩
        · exact Or.inl z
        · have lg := hp.2.1.1 g hg
          exact Or.inr ⟨z1, z2, ry_fg (ud_n e) (fun y hy => dl_o l e (by omega)) z3⟩
    have h0 : ∀ y, y < 80 → b_kind y = nI (if f * 20 + x ≤ y ∧ y < f * 20 + x then K (y + 1) else K y) ∧ b_val y = nI (if f * 20 + x ≤ y ∧ y < f * 20 + x then V (y + 1) else V y) := fun y hy => by
      rw [if_neg (by omega), if_neg (by omega)]; exact y3.2 y hy
    refine ym_tok hp.2.1 y3 (fun hn => absurd ⟨f, x, hf, hx, rfl, rfl⟩ hn) (fun f' x' _ _ _ _ => nm_r (ba_20x f x) ⟨L f - 1 - x + 1, ?_⟩)
    exact ym_d31 hp.2.1 hf hx (y3.1 f hf) _ (fun KA' VA' hKV' => ⟨rfl, true, G, _, _, _, ⟨hp.1, hT', fun _ => hG, fun h => nomatch h⟩, ⟨x1, x2, hr', fun _ => ⟨b1, hXg⟩, fun h => nomatch h⟩, ⟨y1, y2, ⟨hYl, hKV'⟩, hYg⟩⟩) (L f - 1 - x) (f * 20 + x) b_kind b_val (by omega) (Nat.le_refl _) h0
  · rw [if_neg (by omega), if_neg (by omega)]; exact x3.2 y hy
