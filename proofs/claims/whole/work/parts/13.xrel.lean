/-! the pure state, and X against it -/
def tx_w (L K : Nat → Nat) (f x : Nat) : Nat := if x < L f then K (f * 20 + x) else 10
def tx_ok (L K V : Nat → Nat) : Prop := (∀ f, f < 4 → L f ≤ 20) ∧ ∀ x, x < 80 → K x < 10 ∧ V x < 16
def pr_ok (b : Bool) (G : gm_G) (L K V : Nat → Nat) : Prop := gm_ok G ∧ tx_ok L K V ∧ (b = true → gm_gd G) ∧ (b = false → ∀ f, f < 4 → L f = 0)
def rb (b : Bool) : Int32 := if b = true then 1 else 0
theorem rb_t : rb true = 1 := rfl
theorem rb_f : rb false = 0 := rfl
def rx_f (G : gm_G) (L K : Nat → Nat) (f : Nat) (FA EX RO SC : Nat → Int32) : Prop := xf_ok G (tx_w L K f) (L f) (FA f) (fun k => EX (f * 21 + k)) (fun x => RO (f * 20 + x)) (fun x => SC (f * 20 + x))
def rx_t (L K V : Nat → Nat) (a_textLength a_kindAt a_valueAt : Nat → Int32) : Prop := (∀ f, f < 4 → a_textLength f = nI (L f)) ∧ ∀ x, x < 80 → a_kindAt x = nI (K x) ∧ a_valueAt x = nI (V x)
def rx_R (b : Bool) (G : gm_G) (L K V : Nat → Nat) (u : SX) : Prop := match u with
  | (f_built, f_productionCount, f_depth, a_ruleOf, a_marked, a_symbolCount, a_symbols, a_roles, a_derives, a_first, a_follow, a_textLength, a_kindAt, a_valueAt, a_failsAt, a_expectedAt, a_roleAt, a_scopeAt, a_openProduction, a_openNext, a_openStart, a_targetBefore) => f_built = rb b ∧ xg_ok G f_productionCount a_ruleOf a_marked a_symbolCount a_symbols a_roles ∧ rx_t L K V a_textLength a_kindAt a_valueAt ∧ (b = true → (∀ n, n < 6 → gm_ms (a_first n) (fun t => t ≤ 10 ∧ gm_FU G t n)) ∧ ∀ f, f < 4 → rx_f G L K f a_failsAt a_expectedAt a_roleAt a_scopeAt) ∧ (b = false → ∀ x, x < 80 → a_roleAt x = 0)
theorem tx_wn {L K : Nat → Nat} {f : Nat} : tx_w L K f (L f) = 10 := if_neg (Nat.lt_irrefl _)
theorem tx_wk {L K V : Nat → Nat} (h : tx_ok L K V) {a_textLength a_kindAt a_valueAt : Nat → Int32} (hr : rx_t L K V a_textLength a_kindAt a_valueAt) {f : Nat} (hf : f < 4) : ∀ x, x < L f → a_kindAt (f * 20 + x) = nI (tx_w L K f x) ∧ tx_w L K f x < 10 := by
  intro x hx
  have l := h.1 f hf
  unfold tx_w
  rw [if_pos hx]
  exact ⟨(hr.2 _ (by omega)).1, (h.2 _ (by omega)).1⟩
section
variable {f_built f_productionCount f_depth : Int32} {a_ruleOf a_marked a_symbolCount a_symbols a_roles a_derives a_first a_follow a_textLength a_kindAt a_valueAt a_failsAt a_expectedAt a_roleAt a_scopeAt a_openProduction a_openNext a_openStart a_targetBefore : Nat → Int32} {G : gm_G} {L K V : Nat → Nat}
theorem xm_parse (hG : gm_gd G) (hT : tx_ok L K V) (hx : xg_ok G f_productionCount a_ruleOf a_marked a_symbolCount a_symbols a_roles) (hr : rx_t L K V a_textLength a_kindAt a_valueAt) (hB : ∀ n, n < 6 → gm_ms (a_first n) (fun t => t ≤ 10 ∧ gm_FU G t n)) {f : Nat} (hf : f < 4) (post : SX → Prop) (hP : ∀ d FA EX RO SC OP ON OS, rx_f G L K f FA EX RO SC → (∀ g, g < 4 → g ≠ f → rx_f G L K g a_failsAt a_expectedAt a_roleAt a_scopeAt → rx_f G L K g FA EX RO SC) → post (f_built, f_productionCount, d, a_ruleOf, a_marked, a_symbolCount, a_symbols, a_roles, a_derives, a_first, a_follow, a_textLength, a_kindAt, a_valueAt, FA, EX, RO, SC, OP, ON, OS, a_targetBefore)) : wpX_parse post (f_built, f_productionCount, f_depth, a_ruleOf, a_marked, a_symbolCount, a_symbols, a_roles, a_derives, a_first, a_follow, a_textLength, a_kindAt, a_valueAt, a_failsAt, a_expectedAt, a_roleAt, a_scopeAt, a_openProduction, a_openNext, a_openStart, a_targetBefore) (nI f) := by
  refine xp_pa hG hx hB hf tx_wn (hT.1 f hf) (hr.1 f hf) (tx_wk hT hr hf) post (fun d FA EX RO SC OP ON OS ⟨h1, h2, h3, h4, h5⟩ => hP d FA EX RO SC OP ON OS h1 (fun g hg hgf q => ?_))
  obtain ⟨q1, q2, q3, q4⟩ := q
  have l := hT.1 g hg
  refine ⟨fun k hk => ?_, by rw [h2 g hgf]; exact q2, fun x hx => ?_, fun x hx => ?_⟩
  · show gm_ms (EX (g * 21 + k)) _
    rw [h3 _ (by omega)]; exact q1 k hk
  · show RO (g * 20 + x) = _
    rw [h4 _ (by omega)]; exact q3 x hx
  · show SC (g * 20 + x) = _
    rw [h5 _ (by omega)]; exact q4 x hx
theorem xm_build58 (hG : gm_gd G) (hT : tx_ok L K V) (hx : xg_ok G f_productionCount a_ruleOf a_marked a_symbolCount a_symbols a_roles) (hr : rx_t L K V a_textLength a_kindAt a_valueAt) (hB : ∀ n, n < 6 → gm_ms (a_first n) (fun t => t ≤ 10 ∧ gm_FU G t n)) (hb : f_built = 1) (post : Int32 → SX → Prop) (hP : ∀ u, rx_R true G L K V u → post 0 u) :
    ∀ c k d FA EX RO SC OP ON OS, k + c = 4 → (∀ g, g < k → rx_f G L K g FA EX RO SC) → wX_build_58 post (c + 1) (nI k) f_built f_productionCount d a_ruleOf a_marked a_symbolCount a_symbols a_roles a_derives a_first a_follow a_textLength a_kindAt a_valueAt FA EX RO SC OP ON OS a_targetBefore := by
  intro c
  induction c with
  | zero =>
    intro k d FA EX RO SC OP ON OS hk hI
    rw [wX_build_58]
    dsimp only
    refine br_t (nI_le (a := 4) (by omega) (by omega)) (hP _ ⟨hb, hx, hr, fun _ => ⟨hB, fun f hf => hI f (by omega)⟩, fun h => nomatch h⟩)
  | succ c ih =>
    intro k d FA EX RO SC OP ON OS hk hI
    rw [wX_build_58]
    dsimp only
    refine br_f (nI_ge (b := 4) (by omega) (by omega)) (xm_parse hG hT hx hr hB (by omega) _ (fun d FA' EX' RO' SC' OP ON OS h1 h2 => nm_r (nI_1 k) (ih (k + 1) _ _ _ _ _ _ _ _ (by omega) (fun g hg => ?_))))
    rcases Nat.lt_or_ge g k with z | z
    · exact h2 g (by omega) (by omega) (hI g z)
    · have e : g = k := by omega
      subst e; exact h1
end
/-- what build answers, and whether the grammar is built then -/
def bd_r (G : gm_G) (r : Int32) (b : Bool) : Prop := (∃ n, n < 6 ∧ gm_us G n ∧ ¬ gm_M G n ∧ (∀ n', n' < n → gm_us G n' → gm_M G n') ∧ r = nI (16 + n) ∧ b = false) ∨ ((∀ n, n < 6 → gm_us G n → gm_M G n) ∧ ((∃ q, q < gm_n G ∧ gm_cl G q ∧ (∀ q', q' < q → ¬ gm_cl G q') ∧ r = nI (32 + q) ∧ b = false) ∨ ((∀ q, q < gm_n G → ¬ gm_cl G q) ∧ r = 0 ∧ b = true)))
theorem bd_u {G : gm_G} {r r' : Int32} {b b' : Bool} (h : bd_r G r b) (h' : bd_r G r' b') : r = r' ∧ b = b' := by
  rcases h with ⟨n, a1, a2, a3, a4, a5, a6⟩ | ⟨a1, ⟨q, a2, a3, a4, a5, a6⟩ | ⟨a2, a3, a4⟩⟩
  · rcases h' with ⟨n', b1, b2, b3, b4, b5, b6⟩ | ⟨b1, _⟩
    · have e : n = n' := by
        rcases Nat.lt_trichotomy n n' with z | z | z
        · exact absurd (b4 n z a2) a3
        · exact z
        · exact absurd (a4 n' z b2) b3
      subst e
      exact ⟨a5.trans b5.symm, a6.trans b6.symm⟩
    · exact absurd (b1 n a1 a2) a3
  · rcases h' with ⟨n', b1, b2, b3, b4, b5, b6⟩ | ⟨_, ⟨q', b2, b3, b4, b5, b6⟩ | ⟨b2, b3, b4⟩⟩
    · exact absurd (a1 n' b1 b2) b3
    · have e : q = q' := by
        rcases Nat.lt_trichotomy q q' with z | z | z
        · exact absurd a3 (b4 q z)
        · exact z
        · exact absurd b3 (a4 q' z)
      subst e
      exact ⟨a5.trans b5.symm, a6.trans b6.symm⟩
    · exact absurd a3 (b2 q a2)
  · rcases h' with ⟨n', b1, b2, b3, b4, b5, b6⟩ | ⟨_, ⟨q', b2, b3, b4, b5, b6⟩ | ⟨b2, b3, b4⟩⟩
    · exact absurd (a1 n' b1 b2) b3
    · exact absurd b3 (a2 q' b2)
    · exact ⟨a3.trans b3.symm, a4.trans b4.symm⟩
theorem bd_g {G : gm_G} (hG : gm_ok G) {r : Int32} (h : bd_r G r true) : gm_gd G := by
  rcases h with ⟨n, _, _, _, _, _, a⟩ | ⟨a1, ⟨q, _, _, _, _, a⟩ | ⟨a2, a3, a4⟩⟩
  · exact nomatch a
  · exact nomatch a
  · exact ⟨hG, a1, fun q p t h1 h2 h3 h4 h5 h6 => a2 q h1 ⟨p, h2, h3, t, h4, h5, h6⟩⟩
section
variable {G : gm_G} {L K V : Nat → Nat}
theorem xm_build {u : SX} (hG : gm_ok G) (hT : tx_ok L K V) (hX : rx_R false G L K V u) (post : Int32 → SX → Prop) (hP : ∀ r b u', bd_r G r b → rx_R b G L K V u' → post r u') : wpX_build post u := by
  obtain ⟨f_built, f_productionCount, f_depth, a_ruleOf, a_marked, a_symbolCount, a_symbols, a_roles, a_derives, a_first, a_follow, a_textLength, a_kindAt, a_valueAt, a_failsAt, a_expectedAt, a_roleAt, a_scopeAt, a_openProduction, a_openNext, a_openStart, a_targetBefore⟩ := u
  obtain ⟨h1, h2, h3, _, h5⟩ := hX
  have h5 := h5 rfl
  rw [rb_f] at h1
  unfold wpX_build
  dsimp only
  refine br_t h1 (xb_fd hG h2 _ (fun D hD => xb_lb hG h2 hD _ (fun r hr => ?_)))
  rcases hr with ⟨n, a1, a2, a3, a4, a5⟩ | ⟨a1, a2⟩
  · subst a5
    refine br_f (fun z => ?_) (hP _ false _ (Or.inl ⟨n, a1, a2, a3, a4, ?_, rfl⟩) ⟨h1, h2, h3, (fun h => nomatch h), fun _ => h5⟩)
    · have := nI_pos' (n := n) (by omega)
      rw [z] at this
      exact absurd this (by decide)
    · rw [show (16 : Int32) = nI 16 from rfl, nI_add]
  · refine br_t a2 (xb_ff hG h2 _ (fun F hF => xb_fw hG h2 hF _ (fun W hW => xb_lc hG h2 hF hW _ (fun r' hr' => ?_))))
    rcases hr' with ⟨q, b1, b2, b3, b4⟩ | ⟨b1, b2⟩
    · subst b4
      have h14 := hG.1
      refine br_f (fun z => ?_) (hP _ false _ (Or.inr ⟨a1, Or.inl ⟨q, b1, b2, b3, ?_, rfl⟩⟩) ⟨h1, h2, h3, (fun h => nomatch h), fun _ => h5⟩)
      · have := nI_pos' (n := q) (by omega)
        rw [z] at this
        exact absurd this (by decide)
      · rw [show (32 : Int32) = nI 32 from rfl, nI_add]
    · have hb : bd_r G 0 true := Or.inr ⟨a1, Or.inr ⟨b1, rfl, rfl⟩⟩
      exact br_t b2 ⟨4 + 1, xm_build58 (bd_g hG hb) hT h2 h3 hF rfl post (fun u hu => hP 0 true u hb hu) 4 0 _ _ _ _ _ _ _ _ (by omega) (fun g hg => by omega)⟩
theorem xm_built {u : SX} (hX : rx_R true G L K V u) (post : Int32 → SX → Prop) (hP : post 1 u) : wpX_build post u := by
  obtain ⟨f_built, f_productionCount, f_depth, a_ruleOf, a_marked, a_symbolCount, a_symbols, a_roles, a_derives, a_first, a_follow, a_textLength, a_kindAt, a_valueAt, a_failsAt, a_expectedAt, a_roleAt, a_scopeAt, a_openProduction, a_openNext, a_openStart, a_targetBefore⟩ := u
  obtain ⟨h1, _⟩ := hX
  rw [rb_t] at h1
  unfold wpX_build
  dsimp only
  exact br_f (by rw [h1]; decide) hP
end
