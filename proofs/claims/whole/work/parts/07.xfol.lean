/-! X's build: FOLLOW and conflicts -/
def gm_cl (G : gm_G) (q : Nat) : Prop := ∃ p, p < q ∧ gm_r G p = gm_r G q ∧ ∃ t, t ≤ 10 ∧ gm_P G t p ∧ gm_P G t q
def gm_cf (G : gm_G) (r : Int32) : Prop := (∃ q, q < gm_n G ∧ gm_cl G q ∧ (∀ q', q' < q → ¬ gm_cl G q') ∧ r = nI q) ∨ ((∀ q, q < gm_n G → ¬ gm_cl G q) ∧ r = -1)
def wf_s (G : gm_G) (W : Nat → Int32) : Prop := ∀ n, n < 6 → ∀ t, t < 32 → bt (W n) t = true → gm_W G t n
def wf_k (W W' : Nat → Int32) : Prop := ∀ n, n < 6 → ∀ t, bt (W n) t = true → bt (W' n) t = true
def wf_p (G : gm_G) (Q : Nat → Nat → Prop) (W : Nat → Int32) (p m : Nat) : Prop := ∀ n t, gm_s G p m = 10 + n → (gm_fq G t p (m + 1) ∨ gm_uq G p (m + 1) ∧ Q t (gm_r G p)) → bt (W n) t = true
theorem gm_fq10 {G : gm_G} {t p m : Nat} (h : gm_fq G t p m) : t < 10 := h.1
section
variable {f_built f_productionCount f_depth : Int32} {a_ruleOf a_marked a_symbolCount a_symbols a_roles a_derives a_first a_follow a_textLength a_kindAt a_valueAt a_failsAt a_expectedAt a_roleAt a_scopeAt a_openProduction a_openNext a_openStart a_targetBefore : Nat → Int32} {G : gm_G}
theorem xb_ft (hG : gm_ok G) (hx : xg_ok G f_productionCount a_ruleOf a_marked a_symbolCount a_symbols a_roles) (hB : ∀ n, n < 6 → gm_ms (a_first n) (fun t => t ≤ 10 ∧ gm_FU G t n)) {p m : Nat} (hp : gm_v G p) (hm : m ≤ gm_l G p) (post : Int32 → Prop) (hP : ∀ r, gm_ms r (fun t => gm_fq G t p m ∨ gm_uq G p m ∧ bt (a_follow (gm_r G p)) t = true) → post r) : wpX_firstThenFollow post (f_built, f_productionCount, f_depth, a_ruleOf, a_marked, a_symbolCount, a_symbols, a_roles, a_derives, a_first, a_follow, a_textLength, a_kindAt, a_valueAt, a_failsAt, a_expectedAt, a_roleAt, a_scopeAt, a_openProduction, a_openNext, a_openStart, a_targetBefore) (nI p) (nI m) := by
  have h15 := gm_v14 hG hp
  have h6 := gm_v6 hG hp
  have c1 : (nI p).toNatClampNeg = p := nI_clamp (by omega)
  have c2 : (nI (gm_r G p)).toNatClampNeg = gm_r G p := nI_clamp (by omega)
  unfold wpX_firstThenFollow
  dsimp only
  refine xb_fr hG hx hB hp hm _ (fun r hr => ?_)
  have hr10 := (hr 10 (by omega)).trans gm_xFU
  rcases Classical.em (gm_uq G p m) with z | z
  · have b10 : bt r 10 = true := hr10.mpr (Or.inr ⟨rfl, z⟩)
    rw [c1, (hx.2 p hp).1, c2]
    refine br_f (by rw [ba_t1024, b10]; decide) ⟨vp_in_nI (by omega) (by omega), vp_in_nI (by omega) (by omega), hP _ (fun t ht => ?_)⟩
    dsimp only
    rw [b_or, b_and, ba_n1025 t ht, Bool.or_eq_true, Bool.and_eq_true, (hr t ht).trans gm_xFU]
    simp only [z, and_true, true_and]
    constructor
    · rintro (⟨h | h, h2⟩ | h)
      · exact Or.inl h
      · simp [h] at h2
      · exact Or.inr h
    · rintro (h | h)
      · exact Or.inl ⟨Or.inl h, by have := gm_fq10 h; simp; omega⟩
      · exact Or.inr h
  · have b10 : bt r 10 = false := by
      cases hh : bt r 10
      · rfl
      · rcases hr10.mp hh with h | h
        · exact absurd (gm_fq10 h) (by omega)
        · exact absurd h.2 z
    refine br_t (by rw [ba_t1024, b10]) (hP _ (fun t ht => ?_))
    dsimp only
    rw [(hr t ht).trans gm_xFU]
    simp [z]
theorem xb_af2 (hG : gm_ok G) (hx : xg_ok G f_productionCount a_ruleOf a_marked a_symbolCount a_symbols a_roles) (hB : ∀ n, n < 6 → gm_ms (a_first n) (fun t => t ≤ 10 ∧ gm_FU G t n)) {Q : Nat → Nat → Prop} (hQ : ∀ t n, Q t n → t < 32) {p : Nat} (hp : p < gm_n G) {W0 : Nat → Int32} (hq : ∀ n, n < 6 → ∀ t, Q t n → bt (W0 n) t = true) (post : SX → Prop) (hP : ∀ W, wf_s G W → wf_k W0 W → (∀ m, m < gm_l G p → wf_p G Q W p m) → post (f_built, f_productionCount, f_depth, a_ruleOf, a_marked, a_symbolCount, a_symbols, a_roles, a_derives, a_first, W, a_textLength, a_kindAt, a_valueAt, a_failsAt, a_expectedAt, a_roleAt, a_scopeAt, a_openProduction, a_openNext, a_openStart, a_targetBefore)) :
    ∀ d m W, m + d = gm_l G p → wf_s G W → wf_k W0 W → (∀ m', m' < m → wf_p G Q W p m') → wX_addFollows_2 post (nI p) f_built f_productionCount f_depth (d + 1) (nI m) a_ruleOf a_marked a_symbolCount a_symbols a_roles a_derives a_first W a_textLength a_kindAt a_valueAt a_failsAt a_expectedAt a_roleAt a_scopeAt a_openProduction a_openNext a_openStart a_targetBefore := by
  have hv : gm_v G p := Or.inl hp
  have hl := gm_vs hG hv
  have h15 := gm_v14 hG hv
  have h6 := gm_v6 hG hv
  obtain ⟨_, _, e3, e4⟩ := hx.2 p hv
  have i1 : vp_in (nI p) 15 := vp_in_nI h15 (by omega)
  have c1 : (nI p).toNatClampNeg = p := nI_clamp (by omega)
  intro d
  induction d with
  | zero =>
    intro m W hm hs hk hI
    rw [wX_addFollows_2]
    dsimp only
    rw [c1, e3]
    exact ⟨i1, br_t (nI_le (by omega) (by omega)) (hP W hs hk (fun m' hm' => hI m' (by omega)))⟩
  | succ d ih =>
    intro m W hm hs hk hI
    have hs16 := hl.2 m (by omega)
    have c2 : (nI (p * 4 + m)).toNatClampNeg = p * 4 + m := nI_clamp (by omega)
    have i2 : vp_in (nI (p * 4 + m)) 60 := vp_in_nI (by omega) (by omega)
    rw [wX_addFollows_2]
    dsimp only
    rw [c1, e3, ba_x4, c2, (e4 m (by omega)).1]
    refine ⟨i1, br_f (nI_ge (by omega) (by omega)) ⟨i2, nm_e ?_⟩⟩
    rcases Nat.lt_or_ge (gm_s G p m) 10 with z | z
    · refine br_t (nI_lt (b := 10) z (by omega)) (nm_r (nI_1 m) (ih (m + 1) W (by omega) hs hk (fun m' hm' => ?_)))
      rcases Nat.lt_or_ge m' m with y | y
      · exact hI m' y
      · have e : m' = m := by omega
        subst e
        intro n t h _; omega
    · have c3 : (nI (gm_s G p m - 10)).toNatClampNeg = gm_s G p m - 10 := nI_clamp (by omega)
      have i3 : vp_in (nI (gm_s G p m - 10)) 6 := vp_in_nI (by omega) (by omega)
      refine br_f (nI_nlt (b := 10) z (by omega)) ?_
      rw [ba_m10 z, c3, nI_1 m]
      refine ⟨i3, xb_ft hG hx hB hv (by omega) _ (fun r hr => ⟨i3, nm_e (nm_e ?_)⟩)⟩
      have hk2 : wf_k W (upd W (gm_s G p m - 10) (W (gm_s G p m - 10) ||| r)) := by
        intro n hn t h
        rw [ba_up]; split
        · next e => subst e; rw [b_or, h]; rfl
        · exact h
      refine ih (m + 1) _ (by omega) (fun n hn t ht h => ?_) (fun n hn t h => hk2 n hn t (hk n hn t h)) (fun m' hm' => ?_)
      · rw [ba_up] at h; split at h
        · next e =>
          subst e
          rw [b_or, Bool.or_eq_true] at h
          rcases h with h | h
          · exact hs _ hn t ht h
          · have q := (hr t ht).mp h
            have hsn : gm_s G p m = 10 + (gm_s G p m - 10) := by omega
            rcases q with q | ⟨q1, q2⟩
            · exact gm_We.mpr ⟨hn, by have := gm_fq10 q; omega, Or.inr ⟨p, m, hp, by omega, hsn, Or.inl q⟩⟩
            · have := hs _ h6 t ht q2
              exact gm_We.mpr ⟨hn, gm_W10 this, Or.inr ⟨p, m, hp, by omega, hsn, Or.inr ⟨q1, this⟩⟩⟩
        · exact hs n hn t ht h
      · rcases Nat.lt_or_ge m' m with y | y
        · intro n t h1 h2
          exact hk2 n (by have := hl.2 m' (by omega); omega) t (hI m' y n t h1 h2)
        · have e : m' = m := by omega
          subst e
          intro n t h1 h2
          have en : gm_s G p m' - 10 = n := by omega
          rw [ba_up, if_pos en.symm, b_or, Bool.or_eq_true]
          have ht : t < 32 := h2.elim (fun q => by have := gm_fq10 q; omega) (fun q => hQ _ _ q.2)
          refine Or.inr ((hr t ht).mpr (h2.elim Or.inl (fun q => Or.inr ⟨q.1, hk _ h6 t (hq _ h6 t q.2)⟩)))
theorem xb_af (hG : gm_ok G) (hx : xg_ok G f_productionCount a_ruleOf a_marked a_symbolCount a_symbols a_roles) (hB : ∀ n, n < 6 → gm_ms (a_first n) (fun t => t ≤ 10 ∧ gm_FU G t n)) {Q : Nat → Nat → Prop} (hQ : ∀ t n, Q t n → t < 32) {p : Nat} (hp : p < gm_n G) (hs : wf_s G a_follow) (hq : ∀ n, n < 6 → ∀ t, Q t n → bt (a_follow n) t = true) (post : SX → Prop) (hP : ∀ W, wf_s G W → wf_k a_follow W → (∀ m, m < gm_l G p → wf_p G Q W p m) → post (f_built, f_productionCount, f_depth, a_ruleOf, a_marked, a_symbolCount, a_symbols, a_roles, a_derives, a_first, W, a_textLength, a_kindAt, a_valueAt, a_failsAt, a_expectedAt, a_roleAt, a_scopeAt, a_openProduction, a_openNext, a_openStart, a_targetBefore)) : wpX_addFollows post (f_built, f_productionCount, f_depth, a_ruleOf, a_marked, a_symbolCount, a_symbols, a_roles, a_derives, a_first, a_follow, a_textLength, a_kindAt, a_valueAt, a_failsAt, a_expectedAt, a_roleAt, a_scopeAt, a_openProduction, a_openNext, a_openStart, a_targetBefore) (nI p) :=
  ⟨gm_l G p + 1, xb_af2 hG hx hB hQ hp hq post hP (gm_l G p) 0 a_follow (by omega) hs (fun _ _ _ h => h) (fun m' h => by omega)⟩
theorem xb_fw40 (hG : gm_ok G) (hx : xg_ok G f_productionCount a_ruleOf a_marked a_symbolCount a_symbols a_roles) (hB : ∀ n, n < 6 → gm_ms (a_first n) (fun t => t ≤ 10 ∧ gm_FU G t n)) {Q : Nat → Nat → Prop} (hQ : ∀ t n, Q t n → t < 32) {W0 : Nat → Int32} (hq : ∀ n, n < 6 → ∀ t, Q t n → bt (W0 n) t = true) (post : SX → Prop) (J32 : _) (x1 : Int32) (hJ : ∀ W, wf_s G W → wf_k W0 W → (∀ p m, p < gm_n G → m < gm_l G p → wf_p G Q W p m) → J32 (x1 + 1) f_built f_productionCount f_depth a_ruleOf a_marked a_symbolCount a_symbols a_roles a_derives a_first W a_textLength a_kindAt a_valueAt a_failsAt a_expectedAt a_roleAt a_scopeAt a_openProduction a_openNext a_openStart a_targetBefore) :
    ∀ d p W, p + d = gm_n G → wf_s G W → wf_k W0 W → (∀ p' m, p' < p → m < gm_l G p' → wf_p G Q W p' m) → wX_findFollow_40 post J32 x1 (d + 1) (nI p) f_built f_productionCount f_depth a_ruleOf a_marked a_symbolCount a_symbols a_roles a_derives a_first W a_textLength a_kindAt a_valueAt a_failsAt a_expectedAt a_roleAt a_scopeAt a_openProduction a_openNext a_openStart a_targetBefore := by
  have h14 := hG.1
  have e0 := hx.1
  intro d
  induction d with
  | zero =>
    intro p W hp hs hk hI
    rw [wX_findFollow_40]
    dsimp only
    rw [e0]
    refine br_t (nI_le (by omega) (by omega)) (nm_e ?_)
    rw [← e0]
    exact hJ W hs hk (fun p' m hp' => hI p' m (by omega))
  | succ d ih =>
    intro p W hp hs hk hI
    rw [wX_findFollow_40]
    dsimp only
    refine br_f (by rw [e0]; exact nI_ge (by omega) (by omega)) (xb_af hG hx hB hQ (by omega) hs (fun n hn t h => hk n hn t (hq n hn t h)) _ (fun W' a b c => nm_r (nI_1 p) ?_))
    refine ih (p + 1) W' (by omega) a (fun n hn t h => b n hn t (hk n hn t h)) (fun p' m hp' hm => ?_)
    rcases Nat.lt_or_ge p' p with y | y
    · intro n t h1 h2
      exact b n (by have := (gm_vs hG (p := p') (Or.inl (by omega))).2 m hm; omega) t (hI p' m y hm n t h1 h2)
    · have e : p' = p := by omega
      subst e
      exact c m hm
theorem xb_fw32 (hG : gm_ok G) (hx : xg_ok G f_productionCount a_ruleOf a_marked a_symbolCount a_symbols a_roles) (hB : ∀ n, n < 6 → gm_ms (a_first n) (fun t => t ≤ 10 ∧ gm_FU G t n)) (post : SX → Prop) (hP : ∀ W, (∀ n, n < 6 → gm_ms (W n) (fun t => gm_W G t n)) → post (f_built, f_productionCount, f_depth, a_ruleOf, a_marked, a_symbolCount, a_symbols, a_roles, a_derives, a_first, W, a_textLength, a_kindAt, a_valueAt, a_failsAt, a_expectedAt, a_roleAt, a_scopeAt, a_openProduction, a_openNext, a_openStart, a_targetBefore)) :
    ∀ d k W, k + d = 67 → wf_s G W → bt (W 0) 10 = true → (∀ n, n < 6 → ∀ t, fx_L (gm_wF G t) k n → bt (W n) t = true) → wX_findFollow_32 post (d + 1) (nI k) f_built f_productionCount f_depth a_ruleOf a_marked a_symbolCount a_symbols a_roles a_derives a_first W a_textLength a_kindAt a_valueAt a_failsAt a_expectedAt a_roleAt a_scopeAt a_openProduction a_openNext a_openStart a_targetBefore := by
  intro d
  induction d with
  | zero =>
    intro k W hk hs h0 hq
    rw [wX_findFollow_32]
    dsimp only
    refine br_t (nI_le (a := 67) (by omega) (by omega)) (hP W (fun n hn t ht => ⟨fun h => hs n hn t ht h, fun h => hq n hn t (fx_le (gm_wM G t) (by omega) (gm_W6 h))⟩))
  | succ d ih =>
    intro k W hk hs h0 hq
    rw [wX_findFollow_32]
    dsimp only
    refine br_f (nI_ge (b := 67) (by omega) (by omega)) ⟨gm_n G + 1, xb_fw40 (Q := fun t n => fx_L (gm_wF G t) k n) hG hx hB (fun t n h => ?_) hq post _ (nI k) (fun W' a b c => ?_) (gm_n G) 0 W (by omega) hs (fun _ _ _ h => h) (fun p' m hp' => by omega)⟩
    · have := gm_W10 (G := G) (t := t) (n := n) ⟨k, h⟩; omega
    · rw [nI_1]
      refine ih (k + 1) W' (by omega) a (b 0 (by omega) 10 h0) (fun n hn t h => ?_)
      rcases h with ⟨_, _, ⟨e1, e2⟩ | ⟨p, m, h1, h2, h3, h4⟩⟩
      · subst e1 e2
        exact b 0 (by omega) 10 h0
      · exact c p m h1 h2 n t h3 h4
theorem xb_fw2 (post : SX → Prop) (hP : ∀ W, (∀ n, n < 6 → W n = 0) → ∃ f, wX_findFollow_32 post f 0 f_built f_productionCount f_depth a_ruleOf a_marked a_symbolCount a_symbols a_roles a_derives a_first (upd W 0 1024) a_textLength a_kindAt a_valueAt a_failsAt a_expectedAt a_roleAt a_scopeAt a_openProduction a_openNext a_openStart a_targetBefore) :
    ∀ d k W, k + d = 6 → (∀ n, n < k → W n = 0) → wX_findFollow_2 post f_built f_productionCount f_depth (d + 1) (nI k) a_ruleOf a_marked a_symbolCount a_symbols a_roles a_derives a_first W a_textLength a_kindAt a_valueAt a_failsAt a_expectedAt a_roleAt a_scopeAt a_openProduction a_openNext a_openStart a_targetBefore := by
  intro d
  induction d with
  | zero =>
    intro k D hk hs
    rw [wX_findFollow_2]
    dsimp only
    exact br_t (nI_le (a := 6) (by omega) (by omega)) (nm_e (hP D (fun n hn => hs n (by omega))))
  | succ d ih =>
    intro k D hk hs
    have c1 : (nI k).toNatClampNeg = k := nI_clamp (by omega)
    rw [wX_findFollow_2]
    dsimp only
    rw [c1]
    refine br_f (nI_ge (b := 6) (by omega) (by omega)) ⟨vp_in_nI (by omega) (by omega), nm_e (nm_r (nI_1 k) (ih (k + 1) _ (by omega) (fun n hn => ?_)))⟩
    rw [ba_up]; split
    · rfl
    · exact hs n (by omega)
theorem xb_fw (hG : gm_ok G) (hx : xg_ok G f_productionCount a_ruleOf a_marked a_symbolCount a_symbols a_roles) (hB : ∀ n, n < 6 → gm_ms (a_first n) (fun t => t ≤ 10 ∧ gm_FU G t n)) (post : SX → Prop) (hP : ∀ W, (∀ n, n < 6 → gm_ms (W n) (fun t => gm_W G t n)) → post (f_built, f_productionCount, f_depth, a_ruleOf, a_marked, a_symbolCount, a_symbols, a_roles, a_derives, a_first, W, a_textLength, a_kindAt, a_valueAt, a_failsAt, a_expectedAt, a_roleAt, a_scopeAt, a_openProduction, a_openNext, a_openStart, a_targetBefore)) : wpX_findFollow post (f_built, f_productionCount, f_depth, a_ruleOf, a_marked, a_symbolCount, a_symbols, a_roles, a_derives, a_first, a_follow, a_textLength, a_kindAt, a_valueAt, a_failsAt, a_expectedAt, a_roleAt, a_scopeAt, a_openProduction, a_openNext, a_openStart, a_targetBefore) := by
  refine ⟨6 + 1, xb_fw2 post (fun W hW => ⟨67 + 1, xb_fw32 hG hx hB post hP 67 0 _ (by omega) (fun n hn t ht h => ?_) ?_ (fun n hn t h => h.elim)⟩) 6 0 a_follow (by omega) (fun n hn => by omega)⟩
  · rw [ba_up] at h; split at h
    · next e =>
      subst e
      rw [ba_1024 t ht] at h
      have e : t = 10 := by simpa using h
      subst e
      exact gm_We.mpr ⟨by omega, by omega, Or.inl ⟨rfl, rfl⟩⟩
    · rw [hW n hn, b_0] at h
      exact absurd h (by decide)
  · rw [ba_up, if_pos rfl]
    exact ba_1024 10 (by omega)
/-! conflicts -/
theorem xb_pr (hG : gm_ok G) (hx : xg_ok G f_productionCount a_ruleOf a_marked a_symbolCount a_symbols a_roles) (hB : ∀ n, n < 6 → gm_ms (a_first n) (fun t => t ≤ 10 ∧ gm_FU G t n)) (hW : ∀ n, n < 6 → gm_ms (a_follow n) (fun t => gm_W G t n)) {p : Nat} (hp : p < gm_n G) (post : Int32 → Prop) (hP : ∀ r, gm_ms r (fun t => gm_P G t p) → post r) : wpX_firstThenFollow post (f_built, f_productionCount, f_depth, a_ruleOf, a_marked, a_symbolCount, a_symbols, a_roles, a_derives, a_first, a_follow, a_textLength, a_kindAt, a_valueAt, a_failsAt, a_expectedAt, a_roleAt, a_scopeAt, a_openProduction, a_openNext, a_openStart, a_targetBefore) (nI p) 0 := by
  refine xb_ft (m := 0) hG hx hB (Or.inl hp) (by omega) post (fun r hr => hP r (fun t ht => ?_))
  rw [hr t ht]
  dsimp only
  rw [hW _ (gm_v6 hG (Or.inl hp)) t ht]
  rfl
theorem gm_Pan {x y : Int32} {p q : Nat} (hx : gm_ms x (fun t => gm_P G t p)) (hy : gm_ms y (fun t => gm_P G t q)) : (x &&& y) = 0 ↔ ¬ ∃ t, t ≤ 10 ∧ gm_P G t p ∧ gm_P G t q := by
  rw [ba_and0]
  constructor
  · rintro h ⟨t, a, b, c⟩
    exact h t (by omega) ⟨(hx t (by omega)).mpr b, (hy t (by omega)).mpr c⟩
  · intro h t ht ⟨a, b⟩
    have a := (hx t ht).mp a
    have b := (hy t ht).mp b
    refine h ⟨t, ?_, a, b⟩
    rcases a with a | a
    · have := a.1; omega
    · exact gm_W10 a.2
theorem xb_ce9 (hG : gm_ok G) (hx : xg_ok G f_productionCount a_ruleOf a_marked a_symbolCount a_symbols a_roles) (hB : ∀ n, n < 6 → gm_ms (a_first n) (fun t => t ≤ 10 ∧ gm_FU G t n)) (hW : ∀ n, n < 6 → gm_ms (a_follow n) (fun t => gm_W G t n)) {q : Nat} (hq : q < gm_n G) {x2 : Int32} (hx2 : gm_ms x2 (fun t => gm_P G t q)) (post : Int32 → Prop) (h1 : gm_cl G q → post 1) (h0 : ¬ gm_cl G q → post 0) :
    ∀ d p, p + d = q → (∀ p', p' < p → ¬ (gm_r G p' = gm_r G q ∧ ∃ t, t ≤ 10 ∧ gm_P G t p' ∧ gm_P G t q)) → wX_clashesWithEarlier_9 post (nI q) x2 f_built f_productionCount f_depth a_ruleOf a_marked a_symbolCount a_symbols a_roles a_derives a_first a_follow a_textLength a_kindAt a_valueAt a_failsAt a_expectedAt a_roleAt a_scopeAt a_openProduction a_openNext a_openStart a_targetBefore (d + 1) (nI p) := by
  have h14 := hG.1
  have hvq : gm_v G q := Or.inl hq
  have c1 : (nI q).toNatClampNeg = q := nI_clamp (by omega)
  intro d
  induction d with
  | zero =>
    intro p hp hI
    rw [wX_clashesWithEarlier_9]
    dsimp only
    exact br_t (nI_le (by omega) (by omega)) (h0 (fun ⟨p', a, b⟩ => hI p' (by omega) b))
  | succ d ih =>
    intro p hp hI
    have hv : gm_v G p := Or.inl (by omega)
    have h6 := gm_v6 hG hv
    have h6' := gm_v6 hG hvq
    have c2 : (nI p).toNatClampNeg = p := nI_clamp (by omega)
    have nx : ¬ (gm_r G p = gm_r G q ∧ ∃ t, t ≤ 10 ∧ gm_P G t p ∧ gm_P G t q) → wX_clashesWithEarlier_9 post (nI q) x2 f_built f_productionCount f_depth a_ruleOf a_marked a_symbolCount a_symbols a_roles a_derives a_first a_follow a_textLength a_kindAt a_valueAt a_failsAt a_expectedAt a_roleAt a_scopeAt a_openProduction a_openNext a_openStart a_targetBefore (d + 1) (nI (p + 1)) := fun h => ih (p + 1) (by omega) (fun p' hp' => by
      rcases Nat.lt_or_ge p' p with y | y
      · exact hI p' y
      · have e : p' = p := by omega
        subst e; exact h)
    rw [wX_clashesWithEarlier_9]
    dsimp only
    rw [c1, c2, (hx.2 p hv).1, (hx.2 q hvq).1]
    refine br_f (nI_ge (by omega) (by omega)) ⟨vp_in_nI (by omega) (by omega), vp_in_nI (by omega) (by omega), pk_eq (gm_r G p) (gm_r G q) (fun h => ?_) (fun h => nm_r (nI_1 p) (nx (fun z => h z.1)))⟩
    refine xb_pr hG hx hB hW (by omega) _ (fun r hr => ?_)
    rcases Classical.em (∃ t, t ≤ 10 ∧ gm_P G t q ∧ gm_P G t p) with z | z
    · refine br_f (fun y => (gm_Pan hx2 hr).mp y z) (h1 ⟨p, by omega, h, ?_⟩)
      obtain ⟨t, a, b, c⟩ := z
      exact ⟨t, a, c, b⟩
    · exact br_t ((gm_Pan hx2 hr).mpr z) (nm_r (nI_1 p) (nx (fun ⟨_, t, a, b, c⟩ => z ⟨t, a, c, b⟩)))
theorem xb_ce (hG : gm_ok G) (hx : xg_ok G f_productionCount a_ruleOf a_marked a_symbolCount a_symbols a_roles) (hB : ∀ n, n < 6 → gm_ms (a_first n) (fun t => t ≤ 10 ∧ gm_FU G t n)) (hW : ∀ n, n < 6 → gm_ms (a_follow n) (fun t => gm_W G t n)) {q : Nat} (hq : q < gm_n G) (post : Int32 → Prop) (h1 : gm_cl G q → post 1) (h0 : ¬ gm_cl G q → post 0) : wpX_clashesWithEarlier post (f_built, f_productionCount, f_depth, a_ruleOf, a_marked, a_symbolCount, a_symbols, a_roles, a_derives, a_first, a_follow, a_textLength, a_kindAt, a_valueAt, a_failsAt, a_expectedAt, a_roleAt, a_scopeAt, a_openProduction, a_openNext, a_openStart, a_targetBefore) (nI q) := by
  unfold wpX_clashesWithEarlier
  dsimp only
  exact xb_pr hG hx hB hW hq _ (fun r hr => ⟨q + 1, xb_ce9 hG hx hB hW hq hr post h1 h0 q 0 (by omega) (fun p' h => by omega)⟩)
theorem xb_lc2 (hG : gm_ok G) (hx : xg_ok G f_productionCount a_ruleOf a_marked a_symbolCount a_symbols a_roles) (hB : ∀ n, n < 6 → gm_ms (a_first n) (fun t => t ≤ 10 ∧ gm_FU G t n)) (hW : ∀ n, n < 6 → gm_ms (a_follow n) (fun t => gm_W G t n)) (post : Int32 → Prop) (hP : ∀ r, gm_cf G r → post r) :
    ∀ d q, q + d = gm_n G → (∀ q', q' < q → ¬ gm_cl G q') → wX_leastConflict_2 post f_built f_productionCount f_depth a_ruleOf a_marked a_symbolCount a_symbols a_roles a_derives a_first a_follow a_textLength a_kindAt a_valueAt a_failsAt a_expectedAt a_roleAt a_scopeAt a_openProduction a_openNext a_openStart a_targetBefore (d + 1) (nI q) := by
  have h14 := hG.1
  have e0 := hx.1
  intro d
  induction d with
  | zero =>
    intro q hq hI
    rw [wX_leastConflict_2]
    dsimp only
    exact br_t (by rw [e0]; exact nI_le (by omega) (by omega)) (hP _ (Or.inr ⟨fun q' hq' => hI q' (by omega), rfl⟩))
  | succ d ih =>
    intro q hq hI
    rw [wX_leastConflict_2]
    dsimp only
    refine br_f (by rw [e0]; exact nI_ge (by omega) (by omega)) (xb_ce hG hx hB hW (by omega) _ (fun h => br_f (by decide) (hP _ (Or.inl ⟨q, by omega, h, hI, rfl⟩))) (fun h => br_t rfl (nm_r (nI_1 q) (ih (q + 1) (by omega) (fun q' hq' => ?_)))))
    rcases Nat.lt_or_ge q' q with y | y
    · exact hI q' y
    · have e : q' = q := by omega
      subst e; exact h
theorem xb_lc (hG : gm_ok G) (hx : xg_ok G f_productionCount a_ruleOf a_marked a_symbolCount a_symbols a_roles) (hB : ∀ n, n < 6 → gm_ms (a_first n) (fun t => t ≤ 10 ∧ gm_FU G t n)) (hW : ∀ n, n < 6 → gm_ms (a_follow n) (fun t => gm_W G t n)) (post : Int32 → Prop) (hP : ∀ r, gm_cf G r → post r) : wpX_leastConflict post (f_built, f_productionCount, f_depth, a_ruleOf, a_marked, a_symbolCount, a_symbols, a_roles, a_derives, a_first, a_follow, a_textLength, a_kindAt, a_valueAt, a_failsAt, a_expectedAt, a_roleAt, a_scopeAt, a_openProduction, a_openNext, a_openStart, a_targetBefore) :=
  ⟨gm_n G + 1, xb_lc2 hG hx hB hW post hP (gm_n G) 0 (by omega) (fun q' h => by omega)⟩
end
