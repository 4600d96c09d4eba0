/-! Y's build: learn -/
def yg_ok (G : gm_G) (f_np : Int32) (a_pRule a_pScope a_pLen a_sym a_role : Nat → Int32) : Prop :=
  f_np = nI (gm_n G) ∧ ∀ p, p < gm_n G → a_pRule p = nI (gm_r G p) ∧ a_pScope p = nI (gm_k G p) ∧ a_pLen p = nI (gm_l G p) ∧ ∀ m, m < gm_l G p → a_sym (p * 4 + m) = nI (gm_s G p m) ∧ (gm_s G p m < 10 → a_role (p * 4 + m) = nI (gm_o G p m))
theorem gm_p0 {G : gm_G} (hG : gm_ok G) {p : Nat} (hp : p < gm_n G) : p < 14 ∧ gm_r G p < 6 ∧ gm_l G p ≤ 4 ∧ ∀ m, m < gm_l G p → gm_s G p m < 16 := by
  have h := hG.2.1 p hp
  have := hG.1
  exact ⟨by omega, h.1, h.2.1, fun m hm => (h.2.2.2 m hm).1⟩
theorem gm_pn_x {G : gm_G} {E : Nat → Prop} {p m l : Nat} (h : l ≤ m) : gm_pn G E p m l := fun k a b => by omega
section
variable {f_np f_built f_some f_empty f_wn f_nt : Int32} {a_pRule a_pScope a_pLen a_sym a_role a_first a_follow a_kind a_val a_len a_word a_reach a_beyond a_way a_known a_bad a_part a_scopes a_inner a_tRule a_tFrom a_tTo a_before : Nat → Int32} {G : gm_G}
theorem ym_ef2 (hG : gm_ok G) (hy : yg_ok G f_np a_pRule a_pScope a_pLen a_sym a_role) {p : Nat} (hp : p < gm_n G) (post : Int32 → Prop) :
    ∀ d m, m + d = gm_l G p → (gm_pn G (fun n => bt f_empty n = true) p m (gm_l G p) → post 1) → (¬ gm_pn G (fun n => bt f_empty n = true) p m (gm_l G p) → post 0) → wY_emptyFrom_2 post (nI p) f_np f_built f_some f_empty f_wn f_nt a_pRule a_pScope a_pLen a_sym a_role a_first a_follow a_kind a_val a_len a_word a_reach a_beyond a_way a_known a_bad a_part a_scopes a_inner a_tRule a_tFrom a_tTo a_before (d + 1) (nI m) := by
  obtain ⟨h14, h6, hl, hs⟩ := gm_p0 hG hp
  obtain ⟨_, _, e3, e4⟩ := hy.2 p hp
  have i1 : vp_in (nI p) 14 := vp_in_nI h14 (by omega)
  have c1 : (nI p).toNatClampNeg = p := nI_clamp (by omega)
  intro d
  induction d with
  | zero =>
    intro m hm h1 h0
    rw [wY_emptyFrom_2]
    dsimp only
    rw [c1, e3]
    exact ⟨i1, br_t (nI_le (by omega) (by omega)) (h1 (gm_pn_x (by omega)))⟩
  | succ d ih =>
    intro m hm h1 h0
    have h16 := hs m (by omega)
    have c2 : (nI (p * 4 + m)).toNatClampNeg = p * 4 + m := nI_clamp (by omega)
    have i2 : vp_in (nI (p * 4 + m)) 56 := vp_in_nI (by omega) (by omega)
    rw [wY_emptyFrom_2]
    dsimp only
    rw [c1, e3, ba_4x, c2, (e4 m (by omega)).1]
    refine ⟨i1, br_f (nI_ge (by omega) (by omega)) ⟨i2, ?_⟩⟩
    rw [gm_pn_e (by omega)] at h1 h0
    rcases Nat.lt_or_ge (gm_s G p m) 10 with z | z
    · exact br_t (nI_lt (b := 10) z (by omega)) (h0 (fun q => by omega))
    · refine br_f (nI_nlt (b := 10) z (by omega)) ⟨i2, ?_⟩
      rw [ba_m10 z]
      rcases Classical.em (bt f_empty (gm_s G p m - 10) = true) with q | q
      · refine br_f (by rw [ba_sh (by omega), q]; decide) (nm_r (nI_1 m) (ih (m + 1) (by omega) (fun x => h1 ⟨z, q, x⟩) (fun x => h0 (fun y => x y.2.2))))
      · exact br_t ((ba_sh (by omega)).mpr (by cases h : bt f_empty (gm_s G p m - 10) <;> simp_all)) (h0 (fun y => q y.2.1))
theorem ym_ef (hG : gm_ok G) (hy : yg_ok G f_np a_pRule a_pScope a_pLen a_sym a_role) {p m : Nat} (hp : p < gm_n G) (hm : m ≤ gm_l G p) (post : Int32 → Prop) (h1 : gm_pn G (fun n => bt f_empty n = true) p m (gm_l G p) → post 1) (h0 : ¬ gm_pn G (fun n => bt f_empty n = true) p m (gm_l G p) → post 0) : wpY_emptyFrom post (f_np, f_built, f_some, f_empty, f_wn, f_nt, a_pRule, a_pScope, a_pLen, a_sym, a_role, a_first, a_follow, a_kind, a_val, a_len, a_word, a_reach, a_beyond, a_way, a_known, a_bad, a_part, a_scopes, a_inner, a_tRule, a_tFrom, a_tTo, a_before) (nI p) (nI m) :=
  ⟨gm_l G p - m + 1, ym_ef2 hG hy hp post (gm_l G p - m) m (by omega) h1 h0⟩
theorem ym_ff5 (hG : gm_ok G) (hy : yg_ok G f_np a_pRule a_pScope a_pLen a_sym a_role) (hF : ∀ n, n < 6 → ∀ t, t < 32 → bt (a_first n) t = true → t < 10) {p : Nat} (hp : p < gm_n G) (post : Int32 → Prop) :
    ∀ d m x3, m + d = gm_l G p → (∀ r, gm_ms r (fun t => bt x3 t = true ∨ (t < 10 ∧ gm_fs G (fun n => bt f_empty n = true) (fun n => bt (a_first n) t = true) t p m)) → post r) → wY_firstFrom_5 post (nI p) f_np f_built f_some f_empty f_wn f_nt a_pRule a_pScope a_pLen a_sym a_role a_first a_follow a_kind a_val a_len a_word a_reach a_beyond a_way a_known a_bad a_part a_scopes a_inner a_tRule a_tFrom a_tTo a_before (d + 1) x3 (nI m) := by
  obtain ⟨h14, h6, hl, hs⟩ := gm_p0 hG hp
  obtain ⟨_, _, e3, e4⟩ := hy.2 p hp
  have i1 : vp_in (nI p) 14 := vp_in_nI h14 (by omega)
  have c1 : (nI p).toNatClampNeg = p := nI_clamp (by omega)
  intro d
  induction d with
  | zero =>
    intro m x3 hm hP
    rw [wY_firstFrom_5]
    dsimp only
    rw [c1, e3]
    refine ⟨i1, br_t (nI_le (by omega) (by omega)) (hP x3 (fun t ht => ⟨Or.inl, fun h => h.elim id (fun ⟨_, m', a, b, _⟩ => ?_)⟩))⟩
    omega
  | succ d ih =>
    intro m x3 hm hP
    have h16 := hs m (by omega)
    have hm2 : m < gm_l G p := by omega
    have c2 : (nI (p * 4 + m)).toNatClampNeg = p * 4 + m := nI_clamp (by omega)
    have i2 : vp_in (nI (p * 4 + m)) 56 := vp_in_nI (by omega) (by omega)
    rw [wY_firstFrom_5]
    dsimp only
    rw [c1, e3, ba_4x, c2, (e4 m (by omega)).1]
    refine ⟨i1, br_f (nI_ge (by omega) (by omega)) ⟨i2, nm_e ?_⟩⟩
    rcases Nat.lt_or_ge (gm_s G p m) 10 with z | z
    · refine br_f (nI_ge (b := 10) z (by omega)) ?_
      unfold wY_firstFrom_54
      refine nm_e (br_t (nI_lt (b := 10) z (by omega)) (hP _ (fun t ht => ?_)))
      dsimp only
      rw [b_or, ba_one _ (by omega) t ht, Bool.or_eq_true, decide_eq_true_iff, gm_fs_e]
      constructor
      · rintro (h | h)
        · exact Or.inl h
        · exact Or.inr ⟨by omega, hm2, Or.inl h.symm⟩
      · rintro (h | ⟨_, _, h | h | h⟩)
        · exact Or.inl h
        · exact Or.inr h.symm
        · omega
        · omega
    · have c3 : (nI (gm_s G p m - 10)).toNatClampNeg = gm_s G p m - 10 := nI_clamp (by omega)
      refine br_t (nI_le (a := 10) z (by omega)) ?_
      unfold wY_firstFrom_54
      rw [ba_m10 z, c3]
      refine ⟨vp_in_nI (by omega) (by omega), nm_e (br_f (nI_nlt (b := 10) z (by omega)) ?_)⟩
      have hf := hF (gm_s G p m - 10) (by omega)
      rcases Classical.em (bt f_empty (gm_s G p m - 10) = true) with q | q
      · refine br_f (by rw [ba_sh (by omega), q]; decide) (nm_r (nI_1 m) (ih (m + 1) _ (by omega) (fun r hr => hP r (fun t ht => ?_))))
        rw [hr t ht]
        dsimp only
        rw [b_or, Bool.or_eq_true, gm_fs_e (m := m)]
        constructor
        · rintro ((h | h) | ⟨h1, h2⟩)
          · exact Or.inl h
          · exact Or.inr ⟨hf t ht h, hm2, Or.inr (Or.inl ⟨z, h⟩)⟩
          · exact Or.inr ⟨h1, hm2, Or.inr (Or.inr ⟨z, q, h2⟩)⟩
        · rintro (h | ⟨h1, _, h | h | h⟩)
          · exact Or.inl (Or.inl h)
          · omega
          · exact Or.inl (Or.inr h.2)
          · exact Or.inr ⟨h1, h.2.2⟩
      · refine br_t ((ba_sh (by omega)).mpr (by cases h : bt f_empty (gm_s G p m - 10) <;> simp_all)) (hP _ (fun t ht => ?_))
        dsimp only
        rw [b_or, Bool.or_eq_true, gm_fs_e]
        constructor
        · rintro (h | h)
          · exact Or.inl h
          · exact Or.inr ⟨hf t ht h, hm2, Or.inr (Or.inl ⟨z, h⟩)⟩
        · rintro (h | ⟨h1, _, h | h | h⟩)
          · exact Or.inl h
          · omega
          · exact Or.inr h.2
          · exact absurd h.2.1 q
theorem ym_ff (hG : gm_ok G) (hy : yg_ok G f_np a_pRule a_pScope a_pLen a_sym a_role) (hF : ∀ n, n < 6 → ∀ t, t < 32 → bt (a_first n) t = true → t < 10) {p m : Nat} (hp : p < gm_n G) (hm : m ≤ gm_l G p) (post : Int32 → Prop) (hP : ∀ r, gm_ms r (fun t => t < 10 ∧ gm_fs G (fun n => bt f_empty n = true) (fun n => bt (a_first n) t = true) t p m) → post r) : wpY_firstFrom post (f_np, f_built, f_some, f_empty, f_wn, f_nt, a_pRule, a_pScope, a_pLen, a_sym, a_role, a_first, a_follow, a_kind, a_val, a_len, a_word, a_reach, a_beyond, a_way, a_known, a_bad, a_part, a_scopes, a_inner, a_tRule, a_tFrom, a_tTo, a_before) (nI p) (nI m) := by
  refine ⟨gm_l G p - m + 1, ym_ff5 hG hy hF hp post (gm_l G p - m) m 0 (by omega) (fun r hr => hP r (fun t ht => ?_))⟩
  rw [hr t ht]
  dsimp only
  rw [b_0]
  simp
end
/-! learn -/
def yl_s (G : gm_G) (sm em : Int32) (F W : Nat → Int32) : Prop := (∀ n, n < 32 → bt sm n = true → gm_M G n) ∧ (∀ n, n < 32 → bt em n = true → gm_U G n) ∧ (∀ n, n < 6 → ∀ t, t < 32 → bt (F n) t = true → gm_F G t n) ∧ (∀ n, n < 6 → ∀ t, t < 32 → bt (W n) t = true → gm_W G t n)
def yl_k (sm em : Int32) (F W : Nat → Int32) (sm' em' : Int32) (F' W' : Nat → Int32) : Prop := (∀ n, bt sm n = true → bt sm' n = true) ∧ (∀ n, bt em n = true → bt em' n = true) ∧ (∀ n, n < 6 → ∀ t, bt (F n) t = true → bt (F' n) t = true) ∧ (∀ n, n < 6 → ∀ t, bt (W n) t = true → bt (W' n) t = true)
/-- the lower bounds -/
def yl_q (QM QU : Nat → Prop) (QF QW : Nat → Nat → Prop) (sm em : Int32) (F W : Nat → Int32) : Prop := (∀ n, QM n → bt sm n = true) ∧ (∀ n, QU n → bt em n = true) ∧ (∀ t n, QF t n → n < 6 ∧ t < 10 ∧ bt (F n) t = true) ∧ (∀ t n, QW t n → n < 6 ∧ t < 32 ∧ bt (W n) t = true)
def yl_w (G : gm_G) (QU : Nat → Prop) (QF QW : Nat → Nat → Prop) (W : Nat → Int32) (p m : Nat) : Prop := ∀ n t, gm_s G p m = 10 + n → (t < 10 ∧ gm_fs G QU (QF t) t p (m + 1) ∨ gm_pn G QU p (m + 1) (gm_l G p) ∧ QW t (gm_r G p)) → bt (W n) t = true
def yl_c (G : gm_G) (QM QU : Nat → Prop) (QF QW : Nat → Nat → Prop) (p : Nat) (sm em : Int32) (F W : Nat → Int32) : Prop := ((∀ m, m < gm_l G p → 10 ≤ gm_s G p m → QM (gm_s G p m - 10)) → bt sm (gm_r G p) = true) ∧ (gm_pn G QU p 0 (gm_l G p) → bt em (gm_r G p) = true) ∧ (∀ t, t < 10 → gm_fs G QU (QF t) t p 0 → bt (F (gm_r G p)) t = true) ∧ ∀ m, m < gm_l G p → yl_w G QU QF QW W p m
theorem yl_q_k {QM QU : Nat → Prop} {QF QW : Nat → Nat → Prop} {sm em sm' em' : Int32} {F W F' W' : Nat → Int32} (h : yl_q QM QU QF QW sm em F W) (k : yl_k sm em F W sm' em' F' W') : yl_q QM QU QF QW sm' em' F' W' :=
  ⟨fun n z => k.1 n (h.1 n z), fun n z => k.2.1 n (h.2.1 n z), fun t n z => ⟨(h.2.2.1 t n z).1, (h.2.2.1 t n z).2.1, k.2.2.1 n (h.2.2.1 t n z).1 t (h.2.2.1 t n z).2.2⟩, fun t n z => ⟨(h.2.2.2 t n z).1, (h.2.2.2 t n z).2.1, k.2.2.2 n (h.2.2.2 t n z).1 t (h.2.2.2 t n z).2.2⟩⟩
theorem yl_k_t {sm em sm' em' sm2 em2 : Int32} {F W F' W' F2 W2 : Nat → Int32} (h : yl_k sm em F W sm' em' F' W') (k : yl_k sm' em' F' W' sm2 em2 F2 W2) : yl_k sm em F W sm2 em2 F2 W2 :=
  ⟨fun n z => k.1 n (h.1 n z), fun n z => k.2.1 n (h.2.1 n z), fun n hn t z => k.2.2.1 n hn t (h.2.2.1 n hn t z), fun n hn t z => k.2.2.2 n hn t (h.2.2.2 n hn t z)⟩
theorem yl_k_r {sm em : Int32} {F W : Nat → Int32} : yl_k sm em F W sm em F W := ⟨fun _ z => z, fun _ z => z, fun _ _ _ z => z, fun _ _ _ z => z⟩
theorem yl_F10 {G : gm_G} {sm em : Int32} {F W : Nat → Int32} (h : yl_s G sm em F W) : ∀ n, n < 6 → ∀ t, t < 32 → bt (F n) t = true → t < 10 := fun n hn t ht z => (gm_Fe.mp (h.2.2.1 n hn t ht z)).2.1
theorem ba_oone {x : Int32} {k t : Nat} (hk : k < 32) : bt (x ||| ((1 : Int32) <<< (nI k &&& 31))) t = true ↔ bt x t = true ∨ t = k := by
  rcases Nat.lt_or_ge t 32 with z | z
  · rw [b_or, ba_one k hk t z, Bool.or_eq_true, decide_eq_true_iff]
  · rw [b_big z, b_big z]
    constructor
    · intro h; exact absurd h (by decide)
    · rintro (h | h)
      · exact absurd h (by decide)
      · omega
section
variable {f_np f_built f_some f_empty f_wn f_nt : Int32} {a_pRule a_pScope a_pLen a_sym a_role a_first a_follow a_kind a_val a_len a_word a_reach a_beyond a_way a_known a_bad a_part a_scopes a_inner a_tRule a_tFrom a_tTo a_before : Nat → Int32} {G : gm_G} {QM QU : Nat → Prop} {QF QW : Nat → Nat → Prop}
theorem ym_l159 (hG : gm_ok G) (hy : yg_ok G f_np a_pRule a_pScope a_pLen a_sym a_role) {p : Nat} (hp : p < gm_n G) (hs : yl_s G f_some f_empty a_first a_follow) (post : SY → Prop) (hP : ∀ F, yl_s G f_some f_empty F a_follow → yl_k f_some f_empty a_first a_follow f_some f_empty F a_follow → (∀ t, t < 10 → gm_fs G (fun n => bt f_empty n = true) (fun n => bt (a_first n) t = true) t p 0 → bt (F (gm_r G p)) t = true) → post (f_np, f_built, f_some, f_empty, f_wn, f_nt, a_pRule, a_pScope, a_pLen, a_sym, a_role, F, a_follow, a_kind, a_val, a_len, a_word, a_reach, a_beyond, a_way, a_known, a_bad, a_part, a_scopes, a_inner, a_tRule, a_tFrom, a_tTo, a_before)) : wY_learn_159 post (nI p) (nI (gm_r G p)) f_np f_built f_some f_empty f_wn f_nt a_pRule a_pScope a_pLen a_sym a_role a_first a_follow a_kind a_val a_len a_word a_reach a_beyond a_way a_known a_bad a_part a_scopes a_inner a_tRule a_tFrom a_tTo a_before := by
  obtain ⟨h14, h6, hl, hs16⟩ := gm_p0 hG hp
  have c2 : (nI (gm_r G p)).toNatClampNeg = gm_r G p := nI_clamp (by omega)
  have i2 : vp_in (nI (gm_r G p)) 6 := vp_in_nI (by omega) (by omega)
  unfold wY_learn_159
  rw [c2]
  refine ⟨i2, ym_ff (m := 0) hG hy (yl_F10 hs) hp (by omega) _ (fun r hr => ⟨i2, nm_e (hP _ ⟨hs.1, hs.2.1, fun n hn t ht h => ?_, hs.2.2.2⟩ ⟨fun _ z => z, fun _ z => z, fun n hn t h => ?_, fun _ _ _ z => z⟩ (fun t ht h => ?_))⟩)⟩
  · rw [ba_up] at h; split at h
    · next e =>
      subst e
      rw [b_or, Bool.or_eq_true] at h
      rcases h with h | h
      · exact hs.2.2.1 _ hn t ht h
      · obtain ⟨t10, q⟩ := (hr t ht).mp h
        refine gm_Fe.mpr ⟨hn, t10, p, hp, rfl, ?_⟩
        obtain ⟨m', a, b, c, d⟩ := q
        refine ⟨m', a, b, fun k k1 k2 => ?_, ?_⟩
        · have y := c k k1 k2
          have := hs16 k (by omega)
          exact ⟨y.1, hs.2.1 _ (by omega) y.2⟩
        · have := hs16 m' b
          exact d.elim Or.inl (fun y => Or.inr ⟨y.1, hs.2.2.1 _ (by omega) t ht y.2⟩)
    · exact hs.2.2.1 n hn t ht h
  · rw [ba_up]; split
    · next e => subst e; rw [b_or, h]; rfl
    · exact h
  · rw [ba_up, if_pos rfl, b_or, Bool.or_eq_true]
    exact Or.inr ((hr t (by omega)).mpr ⟨ht, h⟩)
theorem ym_l138 (hG : gm_ok G) (hy : yg_ok G f_np a_pRule a_pScope a_pLen a_sym a_role) {p : Nat} (hp : p < gm_n G) (hs : yl_s G f_some f_empty a_first a_follow) (hq : yl_q QM QU QF QW f_some f_empty a_first a_follow) (hsm : (∀ m, m < gm_l G p → 10 ≤ gm_s G p m → QM (gm_s G p m - 10)) → bt f_some (gm_r G p) = true) (hW : ∀ m, m < gm_l G p → yl_w G QU QF QW a_follow p m) (post : SY → Prop) (hP : ∀ em F, yl_s G f_some em F a_follow → yl_k f_some f_empty a_first a_follow f_some em F a_follow → yl_c G QM QU QF QW p f_some em F a_follow → post (f_np, f_built, f_some, em, f_wn, f_nt, a_pRule, a_pScope, a_pLen, a_sym, a_role, F, a_follow, a_kind, a_val, a_len, a_word, a_reach, a_beyond, a_way, a_known, a_bad, a_part, a_scopes, a_inner, a_tRule, a_tFrom, a_tTo, a_before)) : wY_learn_138 post (nI p) (nI (gm_r G p)) f_np f_built f_some f_empty f_wn f_nt a_pRule a_pScope a_pLen a_sym a_role a_first a_follow a_kind a_val a_len a_word a_reach a_beyond a_way a_known a_bad a_part a_scopes a_inner a_tRule a_tFrom a_tTo a_before := by
  obtain ⟨h14, h6, hl, hs16⟩ := gm_p0 hG hp
  unfold wY_learn_138
  refine ym_ef (m := 0) hG hy hp (by omega) _ (fun h => br_f (by decide) (nm_e ?_)) (fun h => br_t rfl ?_)
  · have hU : gm_U G (gm_r G p) := gm_Ue.mpr ⟨h6, p, hp, rfl, fun k k1 k2 => by
      have y := h k k1 k2
      have := hs16 k (by omega)
      exact ⟨y.1, hs.2.1 _ (by omega) y.2⟩⟩
    have em' : ∀ n, bt f_empty n = true → bt (f_empty ||| ((1 : Int32) <<< (nI (gm_r G p) &&& 31))) n = true := fun n z => (ba_oone (by omega)).mpr (Or.inl z)
    refine ym_l159 hG hy hp ⟨hs.1, fun n hn z => ?_, hs.2.2⟩ post (fun F a b c => hP _ F a (yl_k_t ⟨fun _ z => z, em', fun _ _ _ z => z, fun _ _ _ z => z⟩ b) ⟨hsm, fun _ => (ba_oone (by omega)).mpr (Or.inr rfl), fun t ht z => c t ht (gm_fs_mo (fun n y => em' n (hq.2.1 n y)) (fun n y => (hq.2.2.1 t n y).2.2) z), hW⟩)
    rcases (ba_oone (by omega)).mp z with z | z
    · exact hs.2.1 n hn z
    · rw [z]; exact hU
  · refine ym_l159 hG hy hp hs post (fun F a b c => hP _ F a b ⟨hsm, fun z => absurd (gm_pn_mo hq.2.1 z) h, fun t ht z => c t ht (gm_fs_mo hq.2.1 (fun n y => (hq.2.2.1 t n y).2.2) z), hW⟩)
theorem ym_l63 (hG : gm_ok G) (hy : yg_ok G f_np a_pRule a_pScope a_pLen a_sym a_role) {p m : Nat} (hp : p < gm_n G) (hm : m < gm_l G p) (h10 : 10 ≤ gm_s G p m) (hs : yl_s G f_some f_empty a_first a_follow) (hq : yl_q QM QU QF QW f_some f_empty a_first a_follow) (post : SY → Prop) (J12 : _) (x3 : Int32) (hP : ∀ W, yl_s G f_some f_empty a_first W → yl_k f_some f_empty a_first a_follow f_some f_empty a_first W → yl_w G QU QF QW W p m → J12 x3 (nI (m + 1)) a_pRule a_pScope a_pLen a_sym a_role a_first W a_kind a_val a_len a_word a_reach a_beyond a_way a_known a_bad a_part a_scopes a_inner a_tRule a_tFrom a_tTo a_before) : wY_learn_63 post J12 (nI p) (nI (gm_r G p)) x3 (nI m) (nI (gm_s G p m)) f_np f_built f_some f_empty f_wn f_nt a_pRule a_pScope a_pLen a_sym a_role a_first a_follow a_kind a_val a_len a_word a_reach a_beyond a_way a_known a_bad a_part a_scopes a_inner a_tRule a_tFrom a_tTo a_before := by
  obtain ⟨h14, h6, hl, hs16⟩ := gm_p0 hG hp
  have h16 := hs16 m hm
  have c2 : (nI (gm_r G p)).toNatClampNeg = gm_r G p := nI_clamp (by omega)
  have i2 : vp_in (nI (gm_r G p)) 6 := vp_in_nI (by omega) (by omega)
  have c3 : (nI (gm_s G p m - 10)).toNatClampNeg = gm_s G p m - 10 := nI_clamp (by omega)
  have i3 : vp_in (nI (gm_s G p m - 10)) 6 := vp_in_nI (by omega) (by omega)
  have sn : gm_s G p m = 10 + (gm_s G p m - 10) := by omega
  unfold wY_learn_63
  rw [ba_m10 h10, c2, c3, nI_1 m]
  refine ⟨i3, ym_ff hG hy (yl_F10 hs) hp (by omega) _ (fun r hr => ⟨i3, nm_e ?_⟩)⟩
  have k1 : ∀ n, n < 6 → ∀ t, bt (a_follow n) t = true → bt (upd a_follow (gm_s G p m - 10) (a_follow (gm_s G p m - 10) ||| r) n) t = true := by
    intro n hn t h
    rw [ba_up]; split
    · next e => subst e; rw [b_or, h]; rfl
    · exact h
  have s1 : ∀ n, n < 6 → ∀ t, t < 32 → bt (upd a_follow (gm_s G p m - 10) (a_follow (gm_s G p m - 10) ||| r) n) t = true → gm_W G t n := by
    intro n hn t ht h
    rw [ba_up] at h; split at h
    · next e =>
      subst e
      rw [b_or, Bool.or_eq_true] at h
      rcases h with h | h
      · exact hs.2.2.2 _ hn t ht h
      · obtain ⟨t10, q⟩ := (hr t ht).mp h
        refine gm_We.mpr ⟨hn, by omega, Or.inr ⟨p, m, hp, hm, sn, Or.inl ⟨t10, ?_⟩⟩⟩
        obtain ⟨m', a, b, c, d⟩ := q
        refine ⟨m', a, b, fun k k1 k2 => ?_, ?_⟩
        · have y := c k k1 k2
          have := hs16 k (by omega)
          exact ⟨y.1, hs.2.1 _ (by omega) y.2⟩
        · have := hs16 m' b
          exact d.elim Or.inl (fun y => Or.inr ⟨y.1, hs.2.2.1 _ (by omega) t ht y.2⟩)
    · exact hs.2.2.2 n hn t ht h
  have w1 : ∀ t, t < 10 → gm_fs G QU (QF t) t p (m + 1) → bt (upd a_follow (gm_s G p m - 10) (a_follow (gm_s G p m - 10) ||| r) (gm_s G p m - 10)) t = true := by
    intro t ht h
    rw [ba_up, if_pos rfl, b_or, Bool.or_eq_true]
    exact Or.inr ((hr t (by omega)).mpr ⟨ht, gm_fs_mo hq.2.1 (fun n y => (hq.2.2.1 t n y).2.2) h⟩)
  refine ym_ef hG hy hp (by omega) _ (fun h => br_f (by decide) ⟨i3, i2, i3, nm_e (nm_r rfl (hP _ ⟨hs.1, hs.2.1, hs.2.2.1, fun n hn t ht z => ?_⟩ ⟨fun _ z => z, fun _ z => z, fun _ _ _ z => z, fun n hn t z => ?_⟩ (fun n t e z => ?_)))⟩) (fun h => br_t rfl (nm_r rfl (hP _ ⟨hs.1, hs.2.1, hs.2.2.1, s1⟩ ⟨fun _ z => z, fun _ z => z, fun _ _ _ z => z, k1⟩ (fun n t e z => ?_))))
  · rw [ba_up] at z; split at z
    · next e =>
      subst e
      rw [b_or, Bool.or_eq_true] at z
      rcases z with z | z
      · exact s1 _ hn t ht z
      · have := s1 _ h6 t ht z
        refine gm_We.mpr ⟨hn, gm_W10 this, Or.inr ⟨p, m, hp, hm, sn, Or.inr ⟨fun k k1 k2 => ?_, this⟩⟩⟩
        have y := h k k1 k2
        have := hs16 k (by omega)
        exact ⟨y.1, hs.2.1 _ (by omega) y.2⟩
    · exact s1 n hn t ht z
  · rw [ba_up]; split
    · next e => subst e; rw [b_or, k1 _ hn t z]; rfl
    · exact k1 n hn t z
  · have en : n = gm_s G p m - 10 := by omega
    subst en
    rw [ba_up, if_pos rfl, b_or, Bool.or_eq_true]
    rcases z with ⟨z1, z2⟩ | ⟨z1, z2⟩
    · exact Or.inl (w1 t z1 z2)
    · exact Or.inr (k1 _ h6 t (hq.2.2.2 t _ z2).2.2)
  · have en : n = gm_s G p m - 10 := by omega
    subst en
    rcases z with ⟨z1, z2⟩ | ⟨z1, z2⟩
    · exact w1 t z1 z2
    · exact absurd (gm_pn_mo hq.2.1 z1) h
theorem ym_l12 (hG : gm_ok G) (hy : yg_ok G f_np a_pRule a_pScope a_pLen a_sym a_role) {p : Nat} (hp : p < gm_n G) {W0 : Nat → Int32} (hq : yl_q QM QU QF QW f_some f_empty a_first W0) (post : SY → Prop) (hP : ∀ sm em F W, yl_s G sm em F W → yl_k f_some f_empty a_first W0 sm em F W → yl_c G QM QU QF QW p sm em F W → post (f_np, f_built, sm, em, f_wn, f_nt, a_pRule, a_pScope, a_pLen, a_sym, a_role, F, W, a_kind, a_val, a_len, a_word, a_reach, a_beyond, a_way, a_known, a_bad, a_part, a_scopes, a_inner, a_tRule, a_tFrom, a_tTo, a_before)) :
    ∀ d m x3 W, m + d = gm_l G p → yl_s G f_some f_empty a_first W → yl_k f_some f_empty a_first W0 f_some f_empty a_first W → (∀ m', m' < m → yl_w G QU QF QW W p m') → (x3 = 1 ∧ (∀ m', m' < m → 10 ≤ gm_s G p m' → bt f_some (gm_s G p m' - 10) = true) ∨ x3 = 0 ∧ ∃ m', m' < m ∧ 10 ≤ gm_s G p m' ∧ ¬ bt f_some (gm_s G p m' - 10) = true) → wY_learn_12 post (nI p) (nI (gm_r G p)) f_np f_built f_some f_empty f_wn f_nt (d + 1) x3 (nI m) a_pRule a_pScope a_pLen a_sym a_role a_first W a_kind a_val a_len a_word a_reach a_beyond a_way a_known a_bad a_part a_scopes a_inner a_tRule a_tFrom a_tTo a_before := by
  obtain ⟨h14, h6, hl, hs16⟩ := gm_p0 hG hp
  obtain ⟨_, _, e3, e4⟩ := hy.2 p hp
  have i1 : vp_in (nI p) 14 := vp_in_nI h14 (by omega)
  have c1 : (nI p).toNatClampNeg = p := nI_clamp (by omega)
  intro d
  induction d with
  | zero =>
    intro m x3 W hm hs hk hw hx
    have em : m = gm_l G p := by omega
    subst em
    rw [wY_learn_12]
    dsimp only
    rw [c1, e3]
    refine ⟨i1, br_t (nI_le (by omega) (by omega)) ?_⟩
    rcases hx with ⟨e, hx⟩ | ⟨e, m', x1, x2, x3⟩
    · subst e
      have sm' : ∀ n, bt f_some n = true → bt (f_some ||| ((1 : Int32) <<< (nI (gm_r G p) &&& 31))) n = true := fun n z => (ba_oone (by omega)).mpr (Or.inl z)
      have kk : yl_k f_some f_empty a_first W0 (f_some ||| ((1 : Int32) <<< (nI (gm_r G p) &&& 31))) f_empty a_first W := ⟨sm', hk.2⟩
      refine br_f (by decide) (nm_e (ym_l138 (QM := QM) hG hy hp ⟨fun n hn z => ?_, hs.2⟩ (yl_q_k hq kk) (fun _ => (ba_oone (by omega)).mpr (Or.inr rfl)) hw post (fun em F a b c => hP _ em F W a (yl_k_t kk b) c)))
      rcases (ba_oone (by omega)).mp z with z | z
      · exact hs.1 n hn z
      · rw [z]
        refine gm_Me.mpr ⟨h6, p, hp, rfl, fun m hm h10 => ?_⟩
        have := hs16 m hm
        exact hs.1 _ (by omega) (hx m hm h10)
    · subst e
      exact br_t rfl (ym_l138 (QM := QM) hG hy hp hs (yl_q_k hq hk) (fun z => absurd (hq.1 _ (z m' x1 x2)) x3) hw post (fun em F a b c => hP _ em F W a (yl_k_t hk b) c))
  | succ d ih =>
    intro m x3 W hm hs hk hw hx
    have h16 := hs16 m (by omega)
    have c2 : (nI (p * 4 + m)).toNatClampNeg = p * 4 + m := nI_clamp (by omega)
    have i2 : vp_in (nI (p * 4 + m)) 56 := vp_in_nI (by omega) (by omega)
    rw [wY_learn_12]
    dsimp only
    rw [c1, e3, ba_4x, c2, (e4 m (by omega)).1]
    refine ⟨i1, br_f (nI_ge (by omega) (by omega)) ⟨i2, nm_e ?_⟩⟩
    have hwn : ∀ W', yl_k f_some f_empty a_first W f_some f_empty a_first W' → yl_w G QU QF QW W' p m → ∀ m', m' < m + 1 → yl_w G QU QF QW W' p m' := by
      intro W' k' w' m' hm'
      rcases Nat.lt_or_ge m' m with z | z
      · intro n t e q
        have := hs16 m' (by omega)
        exact k'.2.2.2 n (by omega) t (hw m' z n t e q)
      · have e : m' = m := by omega
        subst e; exact w'
    rcases Nat.lt_or_ge (gm_s G p m) 10 with z | z
    · refine br_f (nI_ge (b := 10) z (by omega)) (nm_r (nI_1 m) (ih (m + 1) x3 W (by omega) hs hk (hwn W yl_k_r (fun n t e => by omega)) ?_))
      rcases hx with ⟨e, hx⟩ | ⟨e, m', x1, x2⟩
      · refine Or.inl ⟨e, fun m' hm' h10 => ?_⟩
        rcases Nat.lt_or_ge m' m with y | y
        · exact hx m' y h10
        · have e : m' = m := by omega
          subst e; omega
      · exact Or.inr ⟨e, m', by omega, x2⟩
    · refine br_t (nI_le (a := 10) z (by omega)) ?_
      rw [ba_m10 z]
      rcases Classical.em (bt f_some (gm_s G p m - 10) = true) with q | q
      · refine br_f (by rw [ba_sh (by omega), q]; decide) (ym_l63 (QM := QM) hG hy hp (by omega) z hs (yl_q_k hq hk) post _ x3 (fun W' a b c => ih (m + 1) x3 W' (by omega) a (yl_k_t hk b) (hwn W' b c) ?_))
        rcases hx with ⟨e, hx⟩ | ⟨e, m', x1, x2⟩
        · refine Or.inl ⟨e, fun m' hm' h10 => ?_⟩
          rcases Nat.lt_or_ge m' m with y | y
          · exact hx m' y h10
          · have e : m' = m := by omega
            subst e; exact q
        · exact Or.inr ⟨e, m', by omega, x2⟩
      · refine br_t ((ba_sh (by omega)).mpr (by cases h : bt f_some (gm_s G p m - 10) <;> simp_all)) (ym_l63 (QM := QM) hG hy hp (by omega) z hs (yl_q_k hq hk) post _ 0 (fun W' a b c => ih (m + 1) 0 W' (by omega) a (yl_k_t hk b) (hwn W' b c) (Or.inr ⟨rfl, m, by omega, z, q⟩)))
theorem ym_learn (hG : gm_ok G) (hy : yg_ok G f_np a_pRule a_pScope a_pLen a_sym a_role) {p : Nat} (hp : p < gm_n G) (hs : yl_s G f_some f_empty a_first a_follow) (hq : yl_q QM QU QF QW f_some f_empty a_first a_follow) (post : SY → Prop) (hP : ∀ sm em F W, yl_s G sm em F W → yl_k f_some f_empty a_first a_follow sm em F W → yl_c G QM QU QF QW p sm em F W → post (f_np, f_built, sm, em, f_wn, f_nt, a_pRule, a_pScope, a_pLen, a_sym, a_role, F, W, a_kind, a_val, a_len, a_word, a_reach, a_beyond, a_way, a_known, a_bad, a_part, a_scopes, a_inner, a_tRule, a_tFrom, a_tTo, a_before)) : wpY_learn post (f_np, f_built, f_some, f_empty, f_wn, f_nt, a_pRule, a_pScope, a_pLen, a_sym, a_role, a_first, a_follow, a_kind, a_val, a_len, a_word, a_reach, a_beyond, a_way, a_known, a_bad, a_part, a_scopes, a_inner, a_tRule, a_tFrom, a_tTo, a_before) (nI p) := by
  obtain ⟨h14, h6, hl, hs16⟩ := gm_p0 hG hp
  have c1 : (nI p).toNatClampNeg = p := nI_clamp (by omega)
  unfold wpY_learn
  dsimp only
  rw [c1]
  refine ⟨vp_in_nI h14 (by omega), nm_r (hy.2 p hp).1 ⟨gm_l G p + 1, ym_l12 hG hy hp hq post hP (gm_l G p) 0 1 a_follow (by omega) hs yl_k_r (fun m' h => by omega) (Or.inl ⟨rfl, fun m' h => by omega⟩)⟩⟩
end
