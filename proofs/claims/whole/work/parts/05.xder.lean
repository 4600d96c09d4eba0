/-! X's build, first half: productive rules -/
def xg_ok (G : gm_G) (f_productionCount : Int32) (a_ruleOf a_marked a_symbolCount a_symbols a_roles : Nat → Int32) : Prop :=
  f_productionCount = nI (gm_n G) ∧ ∀ p, gm_v G p → a_ruleOf p = nI (gm_r G p) ∧ a_marked p = nI (gm_k G p) ∧ a_symbolCount p = nI (gm_l G p) ∧ ∀ m, m < gm_l G p → a_symbols (p * 4 + m) = nI (gm_s G p m) ∧ (gm_s G p m < 10 → a_roles (p * 4 + m) = nI (gm_o G p m))
theorem ba_10p (n : Nat) : 10 + nI n = nI (10 + n) := by rw [show (10 : Int32) = nI 10 from rfl, nI_add]
section
variable {f_built f_productionCount f_depth : Int32} {a_ruleOf a_marked a_symbolCount a_symbols a_roles a_derives a_first a_follow a_textLength a_kindAt a_valueAt a_failsAt a_expectedAt a_roleAt a_scopeAt a_openProduction a_openNext a_openStart a_targetBefore : Nat → Int32} {G : gm_G}
theorem xb_ad2 (hG : gm_ok G) (hx : xg_ok G f_productionCount a_ruleOf a_marked a_symbolCount a_symbols a_roles) {p : Nat} (hp : gm_v G p) (post : Int32 → Prop) (h1 : (∀ m, m < gm_l G p → 10 ≤ gm_s G p m → ¬ a_derives (gm_s G p m - 10) = 0) → post 1) (h0 : (∃ m, m < gm_l G p ∧ 10 ≤ gm_s G p m ∧ a_derives (gm_s G p m - 10) = 0) → post 0) :
    ∀ d m, m + d = gm_l G p → (∀ k, k < m → 10 ≤ gm_s G p k → ¬ a_derives (gm_s G p k - 10) = 0) → wX_allDerive_2 post (nI p) f_built f_productionCount f_depth a_ruleOf a_marked a_symbolCount a_symbols a_roles a_derives a_first a_follow a_textLength a_kindAt a_valueAt a_failsAt a_expectedAt a_roleAt a_scopeAt a_openProduction a_openNext a_openStart a_targetBefore (d + 1) (nI m) := by
  have hl := gm_vs hG hp
  have h15 := gm_v14 hG hp
  obtain ⟨_, _, e3, e4⟩ := hx.2 p hp
  have i1 : vp_in (nI p) 15 := vp_in_nI h15 (by omega)
  have c1 : (nI p).toNatClampNeg = p := nI_clamp (by omega)
  intro d
  induction d with
  | zero =>
    intro m hm hI
    rw [wX_allDerive_2]
    dsimp only
    rw [c1, e3]
    exact ⟨i1, br_t (nI_le (by omega) (by omega)) (h1 (fun k hk => hI k (by omega)))⟩
  | succ d ih =>
    intro m hm hI
    have hs := hl.2 m (by omega)
    have c2 : (nI (p * 4 + m)).toNatClampNeg = p * 4 + m := nI_clamp (by omega)
    have i2 : vp_in (nI (p * 4 + m)) 60 := vp_in_nI (by omega) (by omega)
    rw [wX_allDerive_2]
    dsimp only
    rw [c1, e3, ba_x4, c2, (e4 m (by omega)).1]
    refine ⟨i1, br_f (nI_ge (by omega) (by omega)) ⟨i2, nm_e ?_⟩⟩
    rcases Nat.lt_or_ge (gm_s G p m) 10 with z | z
    · refine br_t (nI_lt (b := 10) z (by omega)) (nm_r (nI_1 m) (ih (m + 1) (by omega) (fun k hk hk2 => ?_)))
      rcases Nat.lt_or_ge k m with y | y
      · exact hI k y hk2
      · have e : k = m := by omega
        subst e; omega
    · have c3 : (nI (gm_s G p m - 10)).toNatClampNeg = gm_s G p m - 10 := nI_clamp (by omega)
      refine br_f (nI_nlt (b := 10) z (by omega)) ?_
      rw [ba_m10 z, c3]
      refine ⟨vp_in_nI (by omega) (by omega), br_c (fun h => h0 ⟨m, by omega, z, h⟩) (fun h => nm_r (nI_1 m) (ih (m + 1) (by omega) (fun k hk hk2 => ?_)))⟩
      rcases Nat.lt_or_ge k m with y | y
      · exact hI k y hk2
      · have e : k = m := by omega
        subst e; exact h
theorem xb_ad (hG : gm_ok G) (hx : xg_ok G f_productionCount a_ruleOf a_marked a_symbolCount a_symbols a_roles) {p : Nat} (hp : gm_v G p) (post : Int32 → Prop) (h1 : (∀ m, m < gm_l G p → 10 ≤ gm_s G p m → ¬ a_derives (gm_s G p m - 10) = 0) → post 1) (h0 : (∃ m, m < gm_l G p ∧ 10 ≤ gm_s G p m ∧ a_derives (gm_s G p m - 10) = 0) → post 0) : wpX_allDerive post (f_built, f_productionCount, f_depth, a_ruleOf, a_marked, a_symbolCount, a_symbols, a_roles, a_derives, a_first, a_follow, a_textLength, a_kindAt, a_valueAt, a_failsAt, a_expectedAt, a_roleAt, a_scopeAt, a_openProduction, a_openNext, a_openStart, a_targetBefore) (nI p) :=
  ⟨gm_l G p + 1, xb_ad2 hG hx hp post h1 h0 (gm_l G p) 0 (by omega) (fun k hk => by omega)⟩
def xd_s (G : gm_G) (D : Nat → Int32) : Prop := ∀ n, n < 6 → D n = 0 ∨ (D n = 1 ∧ gm_M G n)
theorem xb_fd31 (hG : gm_ok G) (hx : xg_ok G f_productionCount a_ruleOf a_marked a_symbolCount a_symbols a_roles) {Q : Nat → Prop} (hQ : ∀ n, Q n → n < 6) (post : SX → Prop) (J23 : _) (x1 : Int32) (hJ : ∀ D, xd_s G D → (∀ n, gm_mF G Q n → D n = 1) → J23 (x1 + 1) a_ruleOf a_marked a_symbolCount a_symbols a_roles D a_first a_follow a_textLength a_kindAt a_valueAt a_failsAt a_expectedAt a_roleAt a_scopeAt a_openProduction a_openNext a_openStart a_targetBefore) :
    ∀ d p D, p + d = gm_n G → xd_s G D → (∀ n, Q n → D n = 1) → (∀ p', p' < p → (∀ m, m < gm_l G p' → 10 ≤ gm_s G p' m → Q (gm_s G p' m - 10)) → D (gm_r G p') = 1) → wX_findDerives_31 post J23 x1 f_built f_productionCount f_depth (d + 1) (nI p) a_ruleOf a_marked a_symbolCount a_symbols a_roles D a_first a_follow a_textLength a_kindAt a_valueAt a_failsAt a_expectedAt a_roleAt a_scopeAt a_openProduction a_openNext a_openStart a_targetBefore := by
  have h14 := hG.1
  have e0 := hx.1
  intro d
  induction d with
  | zero =>
    intro p D hp hs hq hI
    rw [wX_findDerives_31]
    dsimp only
    rw [e0]
    refine br_t (nI_le (by omega) (by omega)) (nm_e (hJ D hs (fun n hn => ?_)))
    obtain ⟨_, p', a, b, c⟩ := hn
    rw [← b]
    exact hI p' (by omega) c
  | succ d ih =>
    intro p D hp hs hq hI
    have hv : gm_v G p := Or.inl (by omega)
    have h6 := gm_v6 hG hv
    have c1 : (nI p).toNatClampNeg = p := nI_clamp (by omega)
    have c2 : (nI (gm_r G p)).toNatClampNeg = gm_r G p := nI_clamp (by omega)
    rw [wX_findDerives_31]
    dsimp only
    rw [e0]
    refine br_f (nI_ge (by omega) (by omega)) (xb_ad hG (e0 ▸ hx) hv _ (fun h => ?_) (fun h => ?_))
    · refine br_f (by decide) ?_
      rw [c1, (hx.2 p hv).1, c2]
      refine ⟨vp_in_nI (by omega) (by omega), vp_in_nI (by omega) (by omega), nm_r (congrArg _ ba_bool1) (nm_r (nI_1 p) ?_)⟩
      rw [← e0]
      have hM : gm_M G (gm_r G p) := gm_Me.mpr ⟨h6, p, by omega, rfl, fun m hm hm2 => by
        have := (gm_vs hG hv).2 m hm
        rcases hs (gm_s G p m - 10) (by omega) with z | z
        · exact absurd z (h m hm hm2)
        · exact z.2⟩
      refine ih (p + 1) _ (by omega) (fun n hn => ?_) (fun n hn => ?_) (fun p' hp' hm => ?_)
      · rw [ba_up]; split
        · next e => subst e; exact Or.inr ⟨rfl, hM⟩
        · exact hs n hn
      · rw [ba_up]; split
        · rfl
        · exact hq n hn
      · rw [ba_up]; split
        · rfl
        · next e =>
          rcases Nat.lt_or_ge p' p with y | y
          · exact hI p' y hm
          · have e2 : p' = p := by omega
            subst e2; exact absurd rfl e
    · refine br_t rfl (nm_r (nI_1 p) ?_)
      rw [← e0]
      refine ih (p + 1) _ (by omega) hs hq (fun p' hp' hm => ?_)
      rcases Nat.lt_or_ge p' p with y | y
      · exact hI p' y hm
      · have e2 : p' = p := by omega
        subst e2
        obtain ⟨m, h1, h2, h3⟩ := h
        have := hq _ (hm m h1 h2)
        rw [this] at h3
        exact absurd h3 (by decide)
theorem xb_fd23 (hG : gm_ok G) (hx : xg_ok G f_productionCount a_ruleOf a_marked a_symbolCount a_symbols a_roles) (post : SX → Prop) (hP : ∀ D, (∀ n, n < 6 → (D n = 1 ∧ gm_M G n) ∨ (D n = 0 ∧ ¬ gm_M G n)) → post (f_built, f_productionCount, f_depth, a_ruleOf, a_marked, a_symbolCount, a_symbols, a_roles, D, a_first, a_follow, a_textLength, a_kindAt, a_valueAt, a_failsAt, a_expectedAt, a_roleAt, a_scopeAt, a_openProduction, a_openNext, a_openStart, a_targetBefore)) :
    ∀ d k D, k + d = 67 → xd_s G D → (∀ n, fx_L (gm_mF G) k n → D n = 1) → wX_findDerives_23 post f_built f_productionCount f_depth (d + 1) (nI k) a_ruleOf a_marked a_symbolCount a_symbols a_roles D a_first a_follow a_textLength a_kindAt a_valueAt a_failsAt a_expectedAt a_roleAt a_scopeAt a_openProduction a_openNext a_openStart a_targetBefore := by
  intro d
  induction d with
  | zero =>
    intro k D hk hs hq
    rw [wX_findDerives_23]
    dsimp only
    refine br_t (nI_le (a := 67) (by omega) (by omega)) (hP D (fun n hn => ?_))
    rcases Classical.em (gm_M G n) with z | z
    · exact Or.inl ⟨hq n (fx_le (gm_mM G) (by omega) (gm_M6 z)), z⟩
    · rcases hs n hn with y | y
      · exact Or.inr ⟨y, z⟩
      · exact absurd y.2 z
  | succ d ih =>
    intro k D hk hs hq
    rw [wX_findDerives_23]
    dsimp only
    refine br_f (nI_ge (b := 67) (by omega) (by omega)) ⟨gm_n G + 1, xb_fd31 (Q := fx_L (gm_mF G) k) hG hx (fun n hn => ?_) post _ (nI k) (fun D' a b => ?_) (gm_n G) 0 D (by omega) hs hq (fun p' hp' => by omega)⟩
    · exact (gm_Me.mp ⟨k, hn⟩).1
    · rw [nI_1]
      exact ih (k + 1) D' (by omega) a b
theorem xb_fd2 (post : SX → Prop) (hP : ∀ D, (∀ n, n < 6 → D n = 0) → ∃ f, wX_findDerives_23 post f_built f_productionCount f_depth f 0 a_ruleOf a_marked a_symbolCount a_symbols a_roles D a_first a_follow a_textLength a_kindAt a_valueAt a_failsAt a_expectedAt a_roleAt a_scopeAt a_openProduction a_openNext a_openStart a_targetBefore) :
    ∀ d k D, k + d = 6 → (∀ n, n < k → D n = 0) → wX_findDerives_2 post f_built f_productionCount f_depth (d + 1) (nI k) a_ruleOf a_marked a_symbolCount a_symbols a_roles D a_first a_follow a_textLength a_kindAt a_valueAt a_failsAt a_expectedAt a_roleAt a_scopeAt a_openProduction a_openNext a_openStart a_targetBefore := by
  intro d
  induction d with
  | zero =>
    intro k D hk hs
    rw [wX_findDerives_2]
    dsimp only
    exact br_t (nI_le (a := 6) (by omega) (by omega)) (hP D (fun n hn => hs n (by omega)))
  | succ d ih =>
    intro k D hk hs
    have c1 : (nI k).toNatClampNeg = k := nI_clamp (by omega)
    rw [wX_findDerives_2]
    dsimp only
    rw [c1]
    refine br_f (nI_ge (b := 6) (by omega) (by omega)) ⟨vp_in_nI (by omega) (by omega), nm_r (congrArg _ ba_bool0) (nm_r (nI_1 k) (ih (k + 1) _ (by omega) (fun n hn => ?_)))⟩
    rw [ba_up]; split
    · rfl
    · exact hs n (by omega)
theorem xb_fd (hG : gm_ok G) (hx : xg_ok G f_productionCount a_ruleOf a_marked a_symbolCount a_symbols a_roles) (post : SX → Prop) (hP : ∀ D, (∀ n, n < 6 → (D n = 1 ∧ gm_M G n) ∨ (D n = 0 ∧ ¬ gm_M G n)) → post (f_built, f_productionCount, f_depth, a_ruleOf, a_marked, a_symbolCount, a_symbols, a_roles, D, a_first, a_follow, a_textLength, a_kindAt, a_valueAt, a_failsAt, a_expectedAt, a_roleAt, a_scopeAt, a_openProduction, a_openNext, a_openStart, a_targetBefore)) : wpX_findDerives post (f_built, f_productionCount, f_depth, a_ruleOf, a_marked, a_symbolCount, a_symbols, a_roles, a_derives, a_first, a_follow, a_textLength, a_kindAt, a_valueAt, a_failsAt, a_expectedAt, a_roleAt, a_scopeAt, a_openProduction, a_openNext, a_openStart, a_targetBefore) :=
  ⟨6 + 1, xb_fd2 post (fun D hD => ⟨67 + 1, xb_fd23 hG hx post hP 67 0 D (by omega) (fun n hn => Or.inl (hD n hn)) (fun n hn => hn.elim)⟩) 6 0 a_derives (by omega) (fun n hn => by omega)⟩
theorem xb_si2 (hG : gm_ok G) (hx : xg_ok G f_productionCount a_ruleOf a_marked a_symbolCount a_symbols a_roles) {p n : Nat} (hp : gm_v G p) (hn : n < 6) (post : Int32 → Prop) (h1 : (∃ m, m < gm_l G p ∧ gm_s G p m = 10 + n) → post 1) (h0 : (¬ ∃ m, m < gm_l G p ∧ gm_s G p m = 10 + n) → post 0) :
    ∀ d m, m + d = gm_l G p → (∀ k, k < m → ¬ gm_s G p k = 10 + n) → wX_standsIn_2 post (nI n) (nI p) f_built f_productionCount f_depth a_ruleOf a_marked a_symbolCount a_symbols a_roles a_derives a_first a_follow a_textLength a_kindAt a_valueAt a_failsAt a_expectedAt a_roleAt a_scopeAt a_openProduction a_openNext a_openStart a_targetBefore (d + 1) (nI m) := by
  have hl := gm_vs hG hp
  have h15 := gm_v14 hG hp
  obtain ⟨_, _, e3, e4⟩ := hx.2 p hp
  have i1 : vp_in (nI p) 15 := vp_in_nI h15 (by omega)
  have c1 : (nI p).toNatClampNeg = p := nI_clamp (by omega)
  intro d
  induction d with
  | zero =>
    intro m hm hI
    rw [wX_standsIn_2]
    dsimp only
    rw [c1, e3]
    exact ⟨i1, br_t (nI_le (by omega) (by omega)) (h0 (fun ⟨k, hk, hk2⟩ => hI k (by omega) hk2))⟩
  | succ d ih =>
    intro m hm hI
    have hs := hl.2 m (by omega)
    have c2 : (nI (p * 4 + m)).toNatClampNeg = p * 4 + m := nI_clamp (by omega)
    have i2 : vp_in (nI (p * 4 + m)) 60 := vp_in_nI (by omega) (by omega)
    rw [wX_standsIn_2]
    dsimp only
    rw [c1, e3, ba_x4, c2, (e4 m (by omega)).1, ba_10p]
    refine ⟨i1, br_f (nI_ge (by omega) (by omega)) ⟨i2, pk_eq (gm_s G p m) (10 + n) (fun h => h1 ⟨m, by omega, h⟩) (fun h => nm_r (nI_1 m) (ih (m + 1) (by omega) (fun k hk => ?_)))⟩⟩
    rcases Nat.lt_or_ge k m with y | y
    · exact hI k y
    · have e : k = m := by omega
      subst e; exact h
theorem xb_si (hG : gm_ok G) (hx : xg_ok G f_productionCount a_ruleOf a_marked a_symbolCount a_symbols a_roles) {p n : Nat} (hp : gm_v G p) (hn : n < 6) (post : Int32 → Prop) (h1 : (∃ m, m < gm_l G p ∧ gm_s G p m = 10 + n) → post 1) (h0 : (¬ ∃ m, m < gm_l G p ∧ gm_s G p m = 10 + n) → post 0) : wpX_standsIn post (f_built, f_productionCount, f_depth, a_ruleOf, a_marked, a_symbolCount, a_symbols, a_roles, a_derives, a_first, a_follow, a_textLength, a_kindAt, a_valueAt, a_failsAt, a_expectedAt, a_roleAt, a_scopeAt, a_openProduction, a_openNext, a_openStart, a_targetBefore) (nI n) (nI p) :=
  ⟨gm_l G p + 1, xb_si2 hG hx hp hn post h1 h0 (gm_l G p) 0 (by omega) (fun k hk => by omega)⟩
theorem xb_in8 (hG : gm_ok G) (hx : xg_ok G f_productionCount a_ruleOf a_marked a_symbolCount a_symbols a_roles) {n : Nat} (hn : n < 6) (post : Int32 → Prop) (h1 : gm_us G n → post 1) (h0 : (∀ p, p < gm_n G → ¬ (gm_r G p = n ∨ ∃ m, m < gm_l G p ∧ gm_s G p m = 10 + n)) → post 0) :
    ∀ d p, p + d = gm_n G → (∀ k, k < p → ¬ (gm_r G k = n ∨ ∃ m, m < gm_l G k ∧ gm_s G k m = 10 + n)) → wX_isNeeded_8 post (nI n) f_built f_productionCount f_depth a_ruleOf a_marked a_symbolCount a_symbols a_roles a_derives a_first a_follow a_textLength a_kindAt a_valueAt a_failsAt a_expectedAt a_roleAt a_scopeAt a_openProduction a_openNext a_openStart a_targetBefore (d + 1) (nI p) := by
  have h14 := hG.1
  have e0 := hx.1
  intro d
  induction d with
  | zero =>
    intro p hp hI
    rw [wX_isNeeded_8]
    dsimp only
    rw [e0]
    exact br_t (nI_le (by omega) (by omega)) (h0 (fun k hk => hI k (by omega)))
  | succ d ih =>
    intro p hp hI
    have hv : gm_v G p := Or.inl (by omega)
    have h6 := gm_v6 hG hv
    have c1 : (nI p).toNatClampNeg = p := nI_clamp (by omega)
    rw [wX_isNeeded_8]
    dsimp only
    rw [e0, c1, (hx.2 p hv).1]
    refine br_f (nI_ge (by omega) (by omega)) ⟨vp_in_nI (by omega) (by omega), pk_eq (gm_r G p) n (fun h => h1 (Or.inr ⟨p, by omega, Or.inl h⟩)) (fun h => ?_)⟩
    refine xb_si hG (e0 ▸ hx) hv hn _ (fun h2 => br_f (by decide) (h1 (Or.inr ⟨p, by omega, Or.inr h2⟩))) (fun h2 => br_t rfl (nm_r (nI_1 p) ?_))
    rw [← e0]
    refine ih (p + 1) (by omega) (fun k hk => ?_)
    rcases Nat.lt_or_ge k p with y | y
    · exact hI k y
    · have e : k = p := by omega
      subst e
      exact fun z => z.elim h h2
theorem xb_in (hG : gm_ok G) (hx : xg_ok G f_productionCount a_ruleOf a_marked a_symbolCount a_symbols a_roles) {n : Nat} (hn : n < 6) (post : Int32 → Prop) (h1 : gm_us G n → post 1) (h0 : ¬ gm_us G n → post 0) : wpX_isNeeded post (f_built, f_productionCount, f_depth, a_ruleOf, a_marked, a_symbolCount, a_symbols, a_roles, a_derives, a_first, a_follow, a_textLength, a_kindAt, a_valueAt, a_failsAt, a_expectedAt, a_roleAt, a_scopeAt, a_openProduction, a_openNext, a_openStart, a_targetBefore) (nI n) := by
  refine pk_eq n 0 (fun h => h1 (Or.inl h)) (fun h => ⟨gm_n G + 1, xb_in8 hG hx hn post h1 (fun h2 => h0 (fun z => ?_)) (gm_n G) 0 (by omega) (fun k hk => by omega)⟩)
  rcases z with z | ⟨p, z1, z2⟩
  · exact h z
  · exact h2 p z1 z2
/-- the least rule that is needed and derives nothing -/
def gm_br (G : gm_G) (r : Int32) : Prop := (∃ n, n < 6 ∧ gm_us G n ∧ ¬ gm_M G n ∧ (∀ n', n' < n → gm_us G n' → gm_M G n') ∧ r = nI n) ∨ ((∀ n, n < 6 → gm_us G n → gm_M G n) ∧ r = -1)
theorem xb_lb2 (hG : gm_ok G) (hx : xg_ok G f_productionCount a_ruleOf a_marked a_symbolCount a_symbols a_roles) (hD : ∀ n, n < 6 → (a_derives n = 1 ∧ gm_M G n) ∨ (a_derives n = 0 ∧ ¬ gm_M G n)) (post : Int32 → Prop) (hP : ∀ r, gm_br G r → post r) :
    ∀ d k, k + d = 6 → (∀ n, n < k → gm_us G n → gm_M G n) → wX_leastBarrenRule_2 post f_built f_productionCount f_depth a_ruleOf a_marked a_symbolCount a_symbols a_roles a_derives a_first a_follow a_textLength a_kindAt a_valueAt a_failsAt a_expectedAt a_roleAt a_scopeAt a_openProduction a_openNext a_openStart a_targetBefore (d + 1) (nI k) := by
  intro d
  induction d with
  | zero =>
    intro k hk hI
    rw [wX_leastBarrenRule_2]
    dsimp only
    exact br_t (nI_le (a := 6) (by omega) (by omega)) (hP _ (Or.inr ⟨fun n hn => hI n (by omega), rfl⟩))
  | succ d ih =>
    intro k hk hI
    have c1 : (nI k).toNatClampNeg = k := nI_clamp (by omega)
    rw [wX_leastBarrenRule_2]
    dsimp only
    rw [c1]
    refine br_f (nI_ge (b := 6) (by omega) (by omega)) ⟨vp_in_nI (by omega) (by omega), ?_⟩
    rcases hD k (by omega) with ⟨z, y⟩ | ⟨z, y⟩
    · refine br_f (by rw [z]; decide) (nm_r (nI_1 k) (ih (k + 1) (by omega) (fun n hn hu => ?_)))
      rcases Nat.lt_or_ge n k with q | q
      · exact hI n q hu
      · have e : n = k := by omega
        subst e; exact y
    · refine br_t z (xb_in hG hx (by omega) _ (fun h => br_f (by decide) (hP _ (Or.inl ⟨k, by omega, h, y, hI, rfl⟩))) (fun h => br_t rfl (nm_r (nI_1 k) (ih (k + 1) (by omega) (fun n hn hu => ?_)))))
      rcases Nat.lt_or_ge n k with q | q
      · exact hI n q hu
      · have e : n = k := by omega
        subst e; exact absurd hu h
theorem xb_lb (hG : gm_ok G) (hx : xg_ok G f_productionCount a_ruleOf a_marked a_symbolCount a_symbols a_roles) (hD : ∀ n, n < 6 → (a_derives n = 1 ∧ gm_M G n) ∨ (a_derives n = 0 ∧ ¬ gm_M G n)) (post : Int32 → Prop) (hP : ∀ r, gm_br G r → post r) : wpX_leastBarrenRule post (f_built, f_productionCount, f_depth, a_ruleOf, a_marked, a_symbolCount, a_symbols, a_roles, a_derives, a_first, a_follow, a_textLength, a_kindAt, a_valueAt, a_failsAt, a_expectedAt, a_roleAt, a_scopeAt, a_openProduction, a_openNext, a_openStart, a_targetBefore) :=
  ⟨6 + 1, xb_lb2 hG hx hD post hP 6 0 (by omega) (fun n hn => by omega)⟩
end
