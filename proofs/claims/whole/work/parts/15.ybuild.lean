/-! Y's build -/
section
variable {f_np f_built f_some f_empty f_wn f_nt : Int32} {a_pRule a_pScope a_pLen a_sym a_role a_first a_follow a_kind a_val a_len a_word a_reach a_beyond a_way a_known a_bad a_part a_scopes a_inner a_tRule a_tFrom a_tTo a_before : Nat → Int32} {G : gm_G}
theorem ym_pred (hG : gm_ok G) (hy : yg_ok G f_np a_pRule a_pScope a_pLen a_sym a_role) (hE : ∀ n, n < 6 → (bt f_empty n = true ↔ gm_U G n)) (hF : ∀ n, n < 6 → gm_ms (a_first n) (fun t => gm_F G t n)) (hW : ∀ n, n < 6 → gm_ms (a_follow n) (fun t => gm_W G t n)) {p : Nat} (hp : p < gm_n G) (post : Int32 → Prop) (hP : ∀ r, gm_ms r (fun t => gm_P G t p) → post r) : wpY_predict post (f_np, f_built, f_some, f_empty, f_wn, f_nt, a_pRule, a_pScope, a_pLen, a_sym, a_role, a_first, a_follow, a_kind, a_val, a_len, a_word, a_reach, a_beyond, a_way, a_known, a_bad, a_part, a_scopes, a_inner, a_tRule, a_tFrom, a_tTo, a_before) (nI p) := by
  obtain ⟨h14, h6, hl, hs16⟩ := gm_p0 hG hp
  have c1 : (nI p).toNatClampNeg = p := nI_clamp (by omega)
  have c2 : (nI (gm_r G p)).toNatClampNeg = gm_r G p := nI_clamp (by omega)
  have ePN : gm_pn G (fun n => bt f_empty n = true) p 0 (gm_l G p) ↔ gm_uq G p 0 := by
    constructor
    · intro h k k1 k2
      have := hs16 k k2
      exact ⟨(h k k1 k2).1, (hE _ (by omega)).mp (h k k1 k2).2⟩
    · intro h k k1 k2
      have := hs16 k k2
      exact ⟨(h k k1 k2).1, (hE _ (by omega)).mpr (h k k1 k2).2⟩
  unfold wpY_predict
  dsimp only
  refine ym_ff (m := 0) hG hy (fun n hn t ht z => (gm_Fe.mp ((hF n hn t ht).mp z)).2.1) hp (by omega) _ (fun r hr => ?_)
  have hr' : ∀ t, t < 32 → (bt r t = true ↔ gm_fq G t p 0) := by
    intro t ht
    rw [hr t ht]
    constructor
    · intro ⟨a, m', b, c, d, e⟩
      refine ⟨a, m', b, c, fun k k1 k2 => ?_, ?_⟩
      · have := hs16 k (by omega)
        exact ⟨(d k k1 k2).1, (hE _ (by omega)).mp (d k k1 k2).2⟩
      · have := hs16 m' c
        exact e.elim Or.inl (fun y => Or.inr ⟨y.1, (hF _ (by omega) t ht).mp y.2⟩)
    · intro ⟨a, m', b, c, d, e⟩
      refine ⟨a, m', b, c, fun k k1 k2 => ?_, ?_⟩
      · have := hs16 k (by omega)
        exact ⟨(d k k1 k2).1, (hE _ (by omega)).mpr (d k k1 k2).2⟩
      · have := hs16 m' c
        exact e.elim Or.inl (fun y => Or.inr ⟨y.1, (hF _ (by omega) t ht).mpr y.2⟩)
  refine ym_ef (m := 0) hG hy hp (by omega) _ (fun h => br_f (by decide) ?_) (fun h => br_t rfl (hP _ (fun t ht => ?_)))
  · rw [c1, (hy.2 p hp).1, c2]
    refine ⟨vp_in_nI h14 (by omega), vp_in_nI h6 (by omega), hP _ (fun t ht => ?_)⟩
    rw [b_or, Bool.or_eq_true, hr' t ht, hW _ h6 t ht]
    unfold gm_P
    simp only [ePN.mp h, true_and]
  · rw [b_or, b_0, Bool.or_false, hr' t ht]
    unfold gm_P
    have : ¬ gm_uq G p 0 := fun z => h (ePN.mpr z)
    simp [this]
theorem ym_b218 (hG : gm_ok G) (hy : yg_ok G f_np a_pRule a_pScope a_pLen a_sym a_role) (hE : ∀ n, n < 6 → (bt f_empty n = true ↔ gm_U G n)) (hF : ∀ n, n < 6 → gm_ms (a_first n) (fun t => gm_F G t n)) (hW : ∀ n, n < 6 → gm_ms (a_follow n) (fun t => gm_W G t n)) {q : Nat} (hq : q < gm_n G) (post : Int32 → SY → Prop) (J208 : _) (h1 : gm_cl G q → post (32 + nI q) (f_np, f_built, f_some, f_empty, f_wn, f_nt, a_pRule, a_pScope, a_pLen, a_sym, a_role, a_first, a_follow, a_kind, a_val, a_len, a_word, a_reach, a_beyond, a_way, a_known, a_bad, a_part, a_scopes, a_inner, a_tRule, a_tFrom, a_tTo, a_before)) (h0 : ¬ gm_cl G q → J208 (nI (q + 1))) :
    ∀ d p, p + d = q → (∀ p', p' < p → ¬ (gm_r G p' = gm_r G q ∧ ∃ t, t ≤ 10 ∧ gm_P G t p' ∧ gm_P G t q)) → wY_build_218 post J208 (nI q) f_np f_built f_some f_empty f_wn f_nt a_pRule a_pScope a_pLen a_sym a_role a_first a_follow a_kind a_val a_len a_word a_reach a_beyond a_way a_known a_bad a_part a_scopes a_inner a_tRule a_tFrom a_tTo a_before (d + 1) (nI p) := by
  have h14 := hG.1
  have c1 : (nI q).toNatClampNeg = q := nI_clamp (by omega)
  have h6' := (gm_p0 hG hq).2.1
  intro d
  induction d with
  | zero =>
    intro p hp hI
    rw [wY_build_218]
    dsimp only
    exact br_t (nI_le (by omega) (by omega)) (nm_r (nI_1 q) (h0 (fun ⟨p', a, b⟩ => hI p' (by omega) b)))
  | succ d ih =>
    intro p hp hI
    have hpn : p < gm_n G := by omega
    have h6 := (gm_p0 hG hpn).2.1
    have c2 : (nI p).toNatClampNeg = p := nI_clamp (by omega)
    have nx : ¬ (gm_r G p = gm_r G q ∧ ∃ t, t ≤ 10 ∧ gm_P G t p ∧ gm_P G t q) → wY_build_218 post J208 (nI q) f_np f_built f_some f_empty f_wn f_nt a_pRule a_pScope a_pLen a_sym a_role a_first a_follow a_kind a_val a_len a_word a_reach a_beyond a_way a_known a_bad a_part a_scopes a_inner a_tRule a_tFrom a_tTo a_before (d + 1) (nI (p + 1)) := fun h => ih (p + 1) (by omega) (fun p' hp' => by
      rcases Nat.lt_or_ge p' p with y | y
      · exact hI p' y
      · have e : p' = p := by omega
        subst e; exact h)
    rw [wY_build_218]
    dsimp only
    rw [c1, c2, (hy.2 p hpn).1, (hy.2 q hq).1]
    refine br_f (nI_ge (by omega) (by omega)) ⟨vp_in_nI (by omega) (by omega), vp_in_nI (by omega) (by omega), pk_eq (gm_r G p) (gm_r G q) (fun h => ?_) (fun h => nm_r (nI_1 p) (nx (fun z => h z.1)))⟩
    refine ym_pred hG hy hE hF hW hpn _ (fun r hr => ym_pred hG hy hE hF hW hq _ (fun r' hr' => ?_))
    rcases Classical.em (∃ t, t ≤ 10 ∧ gm_P G t p ∧ gm_P G t q) with z | z
    · exact br_f (fun y => (gm_Pan hr hr').mp y z) (h1 ⟨p, by omega, h, z⟩)
    · exact br_t ((gm_Pan hr hr').mpr z) (nm_r (nI_1 p) (nx (fun y => z y.2)))
theorem ym_b208 (hG : gm_ok G) (hy : yg_ok G f_np a_pRule a_pScope a_pLen a_sym a_role) (hE : ∀ n, n < 6 → (bt f_empty n = true ↔ gm_U G n)) (hF : ∀ n, n < 6 → gm_ms (a_first n) (fun t => gm_F G t n)) (hW : ∀ n, n < 6 → gm_ms (a_follow n) (fun t => gm_W G t n)) (hb : f_built = 0) (hM : ∀ n, n < 6 → gm_us G n → gm_M G n) (post : Int32 → SY → Prop) (hP : ∀ r b, bd_r G r b → post r (f_np, rb b, f_some, f_empty, f_wn, f_nt, a_pRule, a_pScope, a_pLen, a_sym, a_role, a_first, a_follow, a_kind, a_val, a_len, a_word, a_reach, a_beyond, a_way, a_known, a_bad, a_part, a_scopes, a_inner, a_tRule, a_tFrom, a_tTo, a_before)) :
    ∀ d q, q + d = gm_n G → (∀ q', q' < q → ¬ gm_cl G q') → wY_build_208 post f_np f_built f_some f_empty f_wn f_nt a_pRule a_pScope a_pLen a_sym a_role a_first a_follow a_kind a_val a_len a_word a_reach a_beyond a_way a_known a_bad a_part a_scopes a_inner a_tRule a_tFrom a_tTo a_before (d + 1) (nI q) := by
  have h14 := hG.1
  have e0 := hy.1
  intro d
  induction d with
  | zero =>
    intro q hq hI
    rw [wY_build_208]
    dsimp only
    exact br_t (by rw [e0]; exact nI_le (by omega) (by omega)) (hP 0 true (Or.inr ⟨hM, Or.inr ⟨fun q' hq' => hI q' (by omega), rfl, rfl⟩⟩))
  | succ d ih =>
    intro q hq hI
    rw [wY_build_208]
    dsimp only
    refine br_f (by rw [e0]; exact nI_ge (by omega) (by omega)) ⟨q + 1, ym_b218 hG hy hE hF hW (by omega) post _ (fun h => ?_) (fun h => ih (q + 1) (by omega) (fun q' hq' => ?_)) q 0 (by omega) (fun p' h => by omega)⟩
    · rw [show (32 : Int32) = nI 32 from rfl, nI_add]
      have := hP (nI (32 + q)) false (Or.inr ⟨hM, Or.inl ⟨q, by omega, h, hI, rfl, rfl⟩⟩)
      rw [rb_f, ← hb] at this
      exact this
    · rcases Nat.lt_or_ge q' q with y | y
      · exact hI q' y
      · have e : q' = q := by omega
        subst e; exact h
theorem ym_b174 (hG : gm_ok G) (hy : yg_ok G f_np a_pRule a_pScope a_pLen a_sym a_role) (hS : ∀ n, n < 6 → (bt f_some n = true ↔ gm_M G n)) (hE : ∀ n, n < 6 → (bt f_empty n = true ↔ gm_U G n)) (hF : ∀ n, n < 6 → gm_ms (a_first n) (fun t => gm_F G t n)) (hW : ∀ n, n < 6 → gm_ms (a_follow n) (fun t => gm_W G t n)) (hb : f_built = 0) {x1 : Int32} (hU : ∀ n, n < 6 → (bt x1 n = true ↔ gm_us G n)) (post : Int32 → SY → Prop) (hP : ∀ r b, bd_r G r b → post r (f_np, rb b, f_some, f_empty, f_wn, f_nt, a_pRule, a_pScope, a_pLen, a_sym, a_role, a_first, a_follow, a_kind, a_val, a_len, a_word, a_reach, a_beyond, a_way, a_known, a_bad, a_part, a_scopes, a_inner, a_tRule, a_tFrom, a_tTo, a_before)) :
    ∀ d k, k + d = 6 → (∀ n, n < k → gm_us G n → gm_M G n) → wY_build_174 post x1 f_np f_built f_some f_empty f_wn f_nt a_pRule a_pScope a_pLen a_sym a_role a_first a_follow a_kind a_val a_len a_word a_reach a_beyond a_way a_known a_bad a_part a_scopes a_inner a_tRule a_tFrom a_tTo a_before (d + 1) (nI k) := by
  intro d
  induction d with
  | zero =>
    intro k hk hI
    rw [wY_build_174]
    dsimp only
    exact br_t (nI_le (a := 6) (by omega) (by omega)) ⟨gm_n G + 1, ym_b208 hG hy hE hF hW hb (fun n hn => hI n (by omega)) post hP (gm_n G) 0 (by omega) (fun q' h => by omega)⟩
  | succ d ih =>
    intro k hk hI
    rw [wY_build_174]
    dsimp only
    have hbit : bt (x1 &&& (f_some ^^^ (-1))) k = true ↔ gm_us G k ∧ ¬ gm_M G k := by
      rw [b_and, b_xor, b_m1 k (by omega), Bool.and_eq_true, hU k (by omega), ← hS k (by omega)]
      cases bt f_some k <;> simp
    refine br_f (nI_ge (b := 6) (by omega) (by omega)) ?_
    rcases Classical.em (gm_us G k ∧ ¬ gm_M G k) with z | z
    · refine br_f (by rw [ba_t1 (by omega), hbit.mpr z]; decide) ?_
      rw [show (16 : Int32) = nI 16 from rfl, nI_add]
      have := hP (nI (16 + k)) false (Or.inl ⟨k, by omega, z.1, z.2, hI, rfl, rfl⟩)
      rw [rb_f, ← hb] at this
      exact this
    · refine br_t ((ba_t1 (by omega)).mpr ?_) (nm_r (nI_1 k) (ih (k + 1) (by omega) (fun n hn hu => ?_)))
      · cases h : bt (x1 &&& (f_some ^^^ (-1))) k
        · rfl
        · exact absurd (hbit.mp h) z
      · rcases Nat.lt_or_ge n k with y | y
        · exact hI n y hu
        · have e : n = k := by omega
          subst e
          exact Classical.byContradiction (fun w => z ⟨hu, w⟩)
theorem ym_b147 (hG : gm_ok G) (hy : yg_ok G f_np a_pRule a_pScope a_pLen a_sym a_role) {QM QU : Nat → Prop} {QF QW : Nat → Nat → Prop} {sm0 em0 : Int32} {F0 W0 : Nat → Int32} (hq : yl_q QM QU QF QW sm0 em0 F0 W0) (post : Int32 → SY → Prop) (J139 : _) (x1 x2 : Int32) (hJ : ∀ sm em F W, yl_s G sm em F W → yl_k sm0 em0 F0 W0 sm em F W → (∀ p, p < gm_n G → yl_c G QM QU QF QW p sm em F W) → J139 (x2 + 1) f_np f_built sm em f_wn f_nt a_pRule a_pScope a_pLen a_sym a_role F W a_kind a_val a_len a_word a_reach a_beyond a_way a_known a_bad a_part a_scopes a_inner a_tRule a_tFrom a_tTo a_before) :
    ∀ d p sm em F W, p + d = gm_n G → yl_s G sm em F W → yl_k sm0 em0 F0 W0 sm em F W → (∀ p', p' < p → yl_c G QM QU QF QW p' sm em F W) → wY_build_147 post J139 x1 x2 (d + 1) (nI p) f_np f_built sm em f_wn f_nt a_pRule a_pScope a_pLen a_sym a_role F W a_kind a_val a_len a_word a_reach a_beyond a_way a_known a_bad a_part a_scopes a_inner a_tRule a_tFrom a_tTo a_before := by
  have h14 := hG.1
  have e0 := hy.1
  intro d
  induction d with
  | zero =>
    intro p sm em F W hp hs hk hI
    rw [wY_build_147]
    dsimp only
    exact br_t (by rw [e0]; exact nI_le (by omega) (by omega)) (nm_e (hJ sm em F W hs hk (fun p' hp' => hI p' (by omega))))
  | succ d ih =>
    intro p sm em F W hp hs hk hI
    rw [wY_build_147]
    dsimp only
    refine br_f (by rw [e0]; exact nI_ge (by omega) (by omega)) (ym_learn (QM := QM) (QU := QU) (QF := QF) (QW := QW) hG hy (by omega) hs (yl_q_k hq hk) _ (fun sm' em' F' W' a b c => nm_r (nI_1 p) (ih (p + 1) _ _ _ _ (by omega) a (yl_k_t hk b) (fun p' hp' => ?_))))
    rcases Nat.lt_or_ge p' p with y | y
    · obtain ⟨c1, c2, c3, c4⟩ := hI p' y
      have hp' : p' < gm_n G := by omega
      have h6 := (gm_p0 hG hp').2.1
      refine ⟨fun z => b.1 _ (c1 z), fun z => b.2.1 _ (c2 z), fun t ht z => b.2.2.1 _ h6 t (c3 t ht z), fun m hm n t e z => ?_⟩
      have := (gm_p0 hG hp').2.2.2 m hm
      exact b.2.2.2 n (by omega) t (c4 m hm n t e z)
    · have e : p' = p := by omega
      subst e; exact c
theorem ym_b139 (hG : gm_ok G) (hy : yg_ok G f_np a_pRule a_pScope a_pLen a_sym a_role) (hb : f_built = 0) {x1 : Int32} (hU : ∀ n, n < 6 → (bt x1 n = true ↔ gm_us G n)) (post : Int32 → SY → Prop) (hP : ∀ r b sm em F W, bd_r G r b → post r (f_np, rb b, sm, em, f_wn, f_nt, a_pRule, a_pScope, a_pLen, a_sym, a_role, F, W, a_kind, a_val, a_len, a_word, a_reach, a_beyond, a_way, a_known, a_bad, a_part, a_scopes, a_inner, a_tRule, a_tFrom, a_tTo, a_before)) :
    ∀ d k sm em F W, k + d = 100 → yl_s G sm em F W → bt (W 0) 10 = true → yl_q (fx_L (gm_mF G) k) (fx_L (gm_uF G) k) (fun t => fx_L (gm_fF G t) (k - 6)) (fun t => fx_L (gm_wF G t) (k - 12)) sm em F W → wY_build_139 post x1 (d + 1) (nI k) f_np f_built sm em f_wn f_nt a_pRule a_pScope a_pLen a_sym a_role F W a_kind a_val a_len a_word a_reach a_beyond a_way a_known a_bad a_part a_scopes a_inner a_tRule a_tFrom a_tTo a_before := by
  intro d
  induction d with
  | zero =>
    intro k sm em F W hk hs h0 hq
    have e : k = 100 := by omega
    subst e
    rw [wY_build_139]
    dsimp only
    refine br_t (nI_le (a := 100) (by omega) (by omega)) ⟨6 + 1, ym_b174 hG hy (fun n hn => ⟨hs.1 n (by omega), fun z => hq.1 n (fx_le (gm_mM G) (by omega) (gm_M6 z))⟩) (fun n hn => ⟨hs.2.1 n (by omega), fun z => hq.2.1 n (fx_le (gm_uM G) (by omega) (gm_U6 z))⟩) (fun n hn t ht => ⟨hs.2.2.1 n hn t ht, fun z => (hq.2.2.1 t n (fx_le (gm_fM G t) (by omega) (gm_F6 z))).2.2⟩) (fun n hn t ht => ⟨hs.2.2.2 n hn t ht, fun z => (hq.2.2.2 t n (fx_le (gm_wM G t) (by omega) (gm_W6 z))).2.2⟩) hb hU post (fun r b h => hP r b _ _ _ _ h) 6 0 (by omega) (fun n h => by omega)⟩
  | succ d ih =>
    intro k sm em F W hk hs h0 hq
    rw [wY_build_139]
    dsimp only
    refine br_f (nI_ge (b := 100) (by omega) (by omega)) ⟨gm_n G + 1, ym_b147 hG hy hq post _ x1 (nI k) (fun sm' em' F' W' a b c => ?_) (gm_n G) 0 sm em F W (by omega) hs yl_k_r (fun p' h => by omega)⟩
    rw [nI_1]
    refine ih (k + 1) sm' em' F' W' (by omega) a (b.2.2.2 0 (by omega) 10 h0) ⟨fun n z => ?_, fun n z => ?_, fun t n z => ?_, fun t n z => ?_⟩
    · obtain ⟨_, p, z1, z2, z3⟩ := z
      rw [← z2]
      exact (c p z1).1 z3
    · obtain ⟨_, p, z1, z2, z3⟩ := z
      rw [← z2]
      exact (c p z1).2.1 z3
    · rcases Nat.lt_or_ge k 6 with y | y
      · rw [show k + 1 - 6 = 0 from by omega] at z
        exact z.elim
      · rw [show k + 1 - 6 = (k - 6) + 1 from by omega] at z
        obtain ⟨z0, zt, p, z1, z2, z3⟩ := z
        refine ⟨z0, zt, ?_⟩
        rw [← z2]
        exact (c p z1).2.2.1 t zt (gm_fs_mo (fun n x => fx_le (gm_uM G) y (gm_U6 x)) (fun n x => x) z3)
    · rcases Nat.lt_or_ge k 12 with y | y
      · rw [show k + 1 - 12 = 0 from by omega] at z
        exact z.elim
      · rw [show k + 1 - 12 = (k - 12) + 1 from by omega] at z
        obtain ⟨z0, zt, z⟩ := z
        refine ⟨z0, by omega, ?_⟩
        rcases z with ⟨e1, e2⟩ | ⟨p, m, z1, z2, z3, z4⟩
        · subst e1 e2
          exact b.2.2.2 0 (by omega) 10 h0
        · refine (c p z1).2.2.2 m z2 n t z3 (z4.elim (fun x => Or.inl ⟨x.1, gm_fs_mo (fun n x => fx_le (gm_uM G) (by omega) (gm_U6 x)) (fun n x => fx_le (gm_fM G t) (by omega) (gm_F6 x)) x.2⟩) (fun x => Or.inr ⟨gm_pn_mo (fun n x => fx_le (gm_uM G) (by omega) (gm_U6 x)) x.1, x.2⟩))
theorem ym_b82 (hG : gm_ok G) (hy : yg_ok G f_np a_pRule a_pScope a_pLen a_sym a_role) {p : Nat} (hp : p < gm_n G) (post : Int32 → SY → Prop) (J61 : _) {A : Nat → Prop} (hJ : ∀ x1, (∀ n, n < 6 → (bt x1 n = true ↔ A n ∨ ∃ m, m < gm_l G p ∧ gm_s G p m = 10 + n)) → J61 x1 (nI (p + 1))) :
    ∀ d m x1, m + d = gm_l G p → (∀ n, n < 6 → (bt x1 n = true ↔ A n ∨ ∃ m', m' < m ∧ gm_s G p m' = 10 + n)) → wY_build_82 post J61 (nI p) f_np f_built f_some f_empty f_wn f_nt a_pRule a_pScope a_pLen a_sym a_role a_first a_follow a_kind a_val a_len a_word a_reach a_beyond a_way a_known a_bad a_part a_scopes a_inner a_tRule a_tFrom a_tTo a_before (d + 1) x1 (nI m) := by
  obtain ⟨h14, h6, hl, hs16⟩ := gm_p0 hG hp
  obtain ⟨_, _, e3, e4⟩ := hy.2 p hp
  have i1 : vp_in (nI p) 14 := vp_in_nI h14 (by omega)
  have c1 : (nI p).toNatClampNeg = p := nI_clamp (by omega)
  intro d
  induction d with
  | zero =>
    intro m x1 hm hI
    have e : m = gm_l G p := by omega
    subst e
    rw [wY_build_82]
    dsimp only
    rw [c1, e3]
    exact ⟨i1, br_t (nI_le (by omega) (by omega)) (nm_r (nI_1 p) (hJ x1 hI))⟩
  | succ d ih =>
    intro m x1 hm hI
    have h16 := hs16 m (by omega)
    have c2 : (nI (p * 4 + m)).toNatClampNeg = p * 4 + m := nI_clamp (by omega)
    have i2 : vp_in (nI (p * 4 + m)) 56 := vp_in_nI (by omega) (by omega)
    rw [wY_build_82]
    dsimp only
    rw [c1, e3, ba_4x, c2, (e4 m (by omega)).1]
    refine ⟨i1, br_f (nI_ge (by omega) (by omega)) ⟨i2, pk_le (gm_s G p m) 9 (fun z => nm_r (nI_1 m) (ih (m + 1) x1 (by omega) (fun n hn => (hI n hn).trans ?_))) (fun z => ⟨i2, nm_e (nm_r (nI_1 m) (ih (m + 1) _ (by omega) (fun n hn => ?_)))⟩)⟩⟩
    · constructor
      · rintro (h | ⟨m', a, b⟩)
        · exact Or.inl h
        · exact Or.inr ⟨m', by omega, b⟩
      · rintro (h | ⟨m', a, b⟩)
        · exact Or.inl h
        · rcases Nat.lt_or_ge m' m with y | y
          · exact Or.inr ⟨m', y, b⟩
          · have e : m' = m := by omega
            subst e; omega
    · rw [ba_m10 (by omega), ba_oone (by omega), hI n hn]
      constructor
      · rintro ((h | ⟨m', a, b⟩) | h)
        · exact Or.inl h
        · exact Or.inr ⟨m', by omega, b⟩
        · exact Or.inr ⟨m, by omega, by omega⟩
      · rintro (h | ⟨m', a, b⟩)
        · exact Or.inl (Or.inl h)
        · rcases Nat.lt_or_ge m' m with y | y
          · exact Or.inl (Or.inr ⟨m', y, b⟩)
          · have e : m' = m := by omega
            subst e
            exact Or.inr (by omega)
theorem ym_b61 (hG : gm_ok G) (hy : yg_ok G f_np a_pRule a_pScope a_pLen a_sym a_role) (post : Int32 → SY → Prop) (hP : ∀ x1, (∀ n, n < 6 → (bt x1 n = true ↔ gm_us G n)) → ∃ f, wY_build_139 post x1 f 0 f_np f_built f_some f_empty f_wn f_nt a_pRule a_pScope a_pLen a_sym a_role a_first a_follow a_kind a_val a_len a_word a_reach a_beyond a_way a_known a_bad a_part a_scopes a_inner a_tRule a_tFrom a_tTo a_before) :
    ∀ d p x1, p + d = gm_n G → (∀ n, n < 6 → (bt x1 n = true ↔ n = 0 ∨ ∃ p', p' < p ∧ (gm_r G p' = n ∨ ∃ m, m < gm_l G p' ∧ gm_s G p' m = 10 + n))) → wY_build_61 post f_np f_built f_some f_empty f_wn f_nt a_pRule a_pScope a_pLen a_sym a_role a_first a_follow a_kind a_val a_len a_word a_reach a_beyond a_way a_known a_bad a_part a_scopes a_inner a_tRule a_tFrom a_tTo a_before (d + 1) x1 (nI p) := by
  have h14 := hG.1
  have e0 := hy.1
  intro d
  induction d with
  | zero =>
    intro p x1 hp hI
    have e : p = gm_n G := by omega
    subst e
    rw [wY_build_61]
    dsimp only
    exact br_t (by rw [e0]; exact nI_le (by omega) (by omega)) (hP x1 hI)
  | succ d ih =>
    intro p x1 hp hI
    have hpn : p < gm_n G := by omega
    obtain ⟨_, h6, hl, hs16⟩ := gm_p0 hG hpn
    have c1 : (nI p).toNatClampNeg = p := nI_clamp (by omega)
    rw [wY_build_61]
    dsimp only
    rw [c1, (hy.2 p hpn).1]
    refine br_f (by rw [e0]; exact nI_ge (by omega) (by omega)) ⟨vp_in_nI (by omega) (by omega), nm_e ⟨gm_l G p + 1, ym_b82 (A := fun n => (n = 0 ∨ ∃ p', p' < p ∧ (gm_r G p' = n ∨ ∃ m, m < gm_l G p' ∧ gm_s G p' m = 10 + n)) ∨ n = gm_r G p) hG hy hpn post _ (fun x1' hx => ih (p + 1) x1' (by omega) (fun n hn => (hx n hn).trans ?_)) (gm_l G p) 0 _ (by omega) (fun n hn => ?_)⟩⟩
    · constructor
      · rintro (((h | ⟨p', a, b⟩) | h) | h)
        · exact Or.inl h
        · exact Or.inr ⟨p', by omega, b⟩
        · exact Or.inr ⟨p, by omega, Or.inl h.symm⟩
        · exact Or.inr ⟨p, by omega, Or.inr h⟩
      · rintro (h | ⟨p', a, b⟩)
        · exact Or.inl (Or.inl (Or.inl h))
        · rcases Nat.lt_or_ge p' p with y | y
          · exact Or.inl (Or.inl (Or.inr ⟨p', y, b⟩))
          · have e : p' = p := by omega
            subst e
            exact b.elim (fun z => Or.inl (Or.inr z.symm)) Or.inr
    · rw [ba_oone (by omega), hI n hn]
      exact ⟨Or.inl, fun h => h.elim id (fun ⟨m', a, _⟩ => by omega)⟩
theorem ym_b23 (post : Int32 → SY → Prop) (hP : ∀ F W, (∀ n, n < 6 → F n = 0 ∧ W n = if n = 0 then 1024 else 0) → ∃ f, wY_build_61 post f_np f_built f_some f_empty f_wn f_nt a_pRule a_pScope a_pLen a_sym a_role F W a_kind a_val a_len a_word a_reach a_beyond a_way a_known a_bad a_part a_scopes a_inner a_tRule a_tFrom a_tTo a_before f 1 0) :
    ∀ d k F W, k + d = 6 → (∀ n, n < k → F n = 0 ∧ W n = if n = 0 then 1024 else 0) → wY_build_23 post 1 f_np f_built f_some f_empty f_wn f_nt (d + 1) (nI k) a_pRule a_pScope a_pLen a_sym a_role F W a_kind a_val a_len a_word a_reach a_beyond a_way a_known a_bad a_part a_scopes a_inner a_tRule a_tFrom a_tTo a_before := by
  intro d
  induction d with
  | zero =>
    intro k F W hk hI
    rw [wY_build_23]
    dsimp only
    exact br_t (nI_le (a := 6) (by omega) (by omega)) (hP F W (fun n hn => hI n (by omega)))
  | succ d ih =>
    intro k F W hk hI
    have c1 : (nI k).toNatClampNeg = k := nI_clamp (by omega)
    have i1 : vp_in (nI k) 6 := vp_in_nI (by omega) (by omega)
    rw [wY_build_23]
    dsimp only
    rw [c1]
    refine br_f (nI_ge (b := 6) (by omega) (by omega)) ⟨i1, nm_e (pk_eq k 0 (fun h => ⟨i1, nm_e (nm_r (nI_1 k) (ih (k + 1) _ _ (by omega) (fun n hn => ?_)))⟩) (fun h => ⟨i1, nm_e (nm_r (nI_1 k) (ih (k + 1) _ _ (by omega) (fun n hn => ?_)))⟩))⟩
    · rcases Classical.em (n = k) with e | e
      · subst e
        rw [pk_us, pk_us, if_pos h]
        exact ⟨rfl, rfl⟩
      · rw [pk_un e, pk_un e]
        exact hI n (by omega)
    · rcases Classical.em (n = k) with e | e
      · subst e
        rw [pk_us, pk_us, if_neg h]
        exact ⟨rfl, rfl⟩
      · rw [pk_un e, pk_un e]
        exact hI n (by omega)
theorem ym_build (hG : gm_ok G) (hy : yg_ok G f_np a_pRule a_pScope a_pLen a_sym a_role) (hb : f_built = 0) (post : Int32 → SY → Prop) (hP : ∀ r b sm em F W, bd_r G r b → post r (f_np, rb b, sm, em, f_wn, f_nt, a_pRule, a_pScope, a_pLen, a_sym, a_role, F, W, a_kind, a_val, a_len, a_word, a_reach, a_beyond, a_way, a_known, a_bad, a_part, a_scopes, a_inner, a_tRule, a_tFrom, a_tTo, a_before)) : wpY_build post (f_np, f_built, f_some, f_empty, f_wn, f_nt, a_pRule, a_pScope, a_pLen, a_sym, a_role, a_first, a_follow, a_kind, a_val, a_len, a_word, a_reach, a_beyond, a_way, a_known, a_bad, a_part, a_scopes, a_inner, a_tRule, a_tFrom, a_tTo, a_before) := by
  unfold wpY_build
  dsimp only
  refine br_t hb ⟨6 + 1, ?_⟩
  refine ym_b23 (f_some := 0) (f_empty := 0) post (fun F W hI => ⟨gm_n G + 1, ?_⟩) 6 0 a_first a_follow (by omega) (fun n h => by omega)
  refine ym_b61 hG hy post (fun x1 hx => ⟨100 + 1, ?_⟩) (gm_n G) 0 1 (by omega) (fun n hn => ?_)
  · refine ym_b139 hG hy hb hx post hP 100 0 0 0 F W (by omega) ⟨fun n _ z => ?_, fun n _ z => ?_, fun n hn t ht z => ?_, fun n hn t ht z => ?_⟩ ?_ ⟨fun n z => z.elim, fun n z => z.elim, fun t n z => z.elim, fun t n z => z.elim⟩
    · rw [b_0] at z; exact absurd z (by decide)
    · rw [b_0] at z; exact absurd z (by decide)
    · rw [(hI n hn).1, b_0] at z; exact absurd z (by decide)
    · rw [(hI n hn).2] at z
      split at z
      · next e =>
        subst e
        rw [ba_1024 t ht] at z
        have e : t = 10 := by simpa using z
        subst e
        exact gm_We.mpr ⟨by omega, by omega, Or.inl ⟨rfl, rfl⟩⟩
      · rw [b_0] at z; exact absurd z (by decide)
    · rw [(hI 0 (by omega)).2, if_pos rfl]
      exact ba_1024 10 (by omega)
  · rw [ba_1 n (by omega), decide_eq_true_iff]
    exact ⟨Or.inl, fun h => h.elim id (fun ⟨p', a, _⟩ => by omega)⟩
end
