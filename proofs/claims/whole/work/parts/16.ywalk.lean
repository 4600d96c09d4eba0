/-! Y's recognition: walk -/
theorem ek_if {c d A B : Prop} (e : c ↔ d) (f : d → A) (g : ¬ d → B) : (c → A) ∧ (¬ c → B) :=
  ⟨fun z => f (e.mp z), fun z => g (fun y => z (e.mpr y))⟩
def yt_R (a_reach : Nat → Int32) (wn n j t : Nat) : Prop := n < 6 ∧ j ≤ wn ∧ t < 32 ∧ bt (a_reach (n * 22 + j)) t = true
def yt_w (w : Nat → Nat) (wn : Nat) (f_wn : Int32) (a_word : Nat → Int32) : Prop := f_wn = nI wn ∧ wn ≤ 21 ∧ (∀ x, x < wn → a_word x = nI (w x) ∧ w x < 10) ∧ ∀ x, wn ≤ x → w x = 10
def yw_c (G : gm_G) (wn : Nat) (BE : Nat → Int32) (p m k : Nat) : Prop := k = wn ∨ (10 ≤ gm_s G p m ∧ bt (BE (gm_s G p m - 10)) k = true)
def yw_p (G : gm_G) (w : Nat → Nat) (wn : Nat) (RE BE : Nat → Int32) (p i : Nat) : Prop := (∃ m k, m < gm_l G p ∧ k ≤ wn ∧ dr_sg G (yt_R RE wn) w p m 0 i k ∧ yw_c G wn BE p m k) ∨ dr_sg G (yt_R RE wn) w p (gm_l G p) 0 i wn
def yw_f (x : Int32) (P : Prop) : Prop := (x = 1 ∧ P) ∨ (x = 0 ∧ ¬ P)
theorem yw_fi {x : Int32} {P Q : Prop} (h : P ↔ Q) (a : yw_f x P) : yw_f x Q := a.elim (fun z => Or.inl ⟨z.1, h.mp z.2⟩) (fun z => Or.inr ⟨z.1, fun y => z.2 (h.mpr y)⟩)
section
variable {f_np f_built f_some f_empty f_wn f_nt : Int32} {a_pRule a_pScope a_pLen a_sym a_role a_first a_follow a_kind a_val a_len a_word a_reach a_beyond a_way a_known a_bad a_part a_scopes a_inner a_tRule a_tFrom a_tTo a_before : Nat → Int32} {G : gm_G}
theorem ym_w114 {w : Nat → Nat} {wn : Nat} (hw : yt_w w wn f_wn a_word) {m k s : Nat} (hm : m < 4) (hk : k ≤ wn) (hs : s < 16) (post : Int32 → SY → Prop) (J14 J51 : _) (x1 x3 : Int32) (hJ : ∀ WY, (∀ m', m' ≠ m + 1 → WY m' = a_way m') → (∀ t, t < 32 → (bt (WY (m + 1)) t = true ↔ bt (a_way (m + 1)) t = true ∨ dr_sy (yt_R a_reach wn) w s k t)) → J51 x3 (nI (k + 1)) a_pRule a_pScope a_pLen a_sym a_role a_first a_follow a_kind a_val a_len a_word a_reach a_beyond WY a_known a_bad a_part a_scopes a_inner a_tRule a_tFrom a_tTo a_before) : wY_walk_114 post J14 J51 x1 x3 (nI m) (nI s) (nI k) f_np f_built f_some f_empty f_wn f_nt a_pRule a_pScope a_pLen a_sym a_role a_first a_follow a_kind a_val a_len a_word a_reach a_beyond a_way a_known a_bad a_part a_scopes a_inner a_tRule a_tFrom a_tTo a_before := by
  obtain ⟨h1, h2, h3, h4⟩ := hw
  have cM : (nI (m + 1)).toNatClampNeg = m + 1 := nI_clamp (by omega)
  have iM : vp_in (nI (m + 1)) 5 := vp_in_nI (by omega) (by omega)
  have cK : (nI k).toNatClampNeg = k := nI_clamp (by omega)
  unfold wY_walk_114
  rw [nI_1 m, nI_1 k, cM]
  refine pk_le s 9 (fun z => ?_) (fun z => ?_)
  · rcases Nat.lt_or_ge k wn with y | y
    · refine br_f (by rw [h1]; exact nI_ge y (by omega)) ?_
      rw [cK, (h3 k y).1]
      have hwk := (h3 k y).2
      refine ⟨vp_in_nI (by omega) (by omega), pk_eq (w k) s (fun e => ⟨iM, iM, nm_e (nm_e (hJ _ (fun m' h => pk_un h) (fun t ht => ?_)))⟩) (fun e => nm_e (hJ a_way (fun _ _ => rfl) (fun t ht => ⟨Or.inl, fun h => h.elim id (fun q => ?_)⟩)))⟩
      · rw [pk_us, b_or, ba_two k (by omega) t ht, Bool.or_eq_true, decide_eq_true_iff]
        unfold dr_sy
        constructor
        · rintro (h | h)
          · exact Or.inl h
          · exact Or.inr (Or.inl ⟨by omega, e, h⟩)
        · rintro (h | h | h)
          · exact Or.inl h
          · exact Or.inr h.2.2
          · omega
      · rcases q with q | q
        · exact absurd q.2.1 e
        · omega
    · refine br_t (by rw [h1]; exact nI_le y (by omega)) (nm_e (hJ a_way (fun _ _ => rfl) (fun t ht => ⟨Or.inl, fun h => h.elim id (fun q => ?_)⟩)))
      have := h4 k y
      rcases q with q | q
      · omega
      · omega
  · have cI : (nI ((s - 10) * 22 + k)).toNatClampNeg = (s - 10) * 22 + k := nI_clamp (by omega)
    rw [ba_m10 (by omega), ba_22x, cI]
    refine ⟨iM, vp_in_nI (by omega) (by omega), iM, nm_e (nm_e (hJ _ (fun m' h => pk_un h) (fun t ht => ?_)))⟩
    rw [pk_us, b_or, Bool.or_eq_true]
    unfold dr_sy yt_R
    constructor
    · rintro (h | h)
      · exact Or.inl h
      · exact Or.inr (Or.inr ⟨by omega, by omega, hk, ht, h⟩)
    · rintro (h | h | h)
      · exact Or.inl h
      · omega
      · exact Or.inr h.2.2.2.2
theorem ym_w51 (hG : gm_ok G) {w : Nat → Nat} {wn : Nat} (hw : yt_w w wn f_wn a_word) {p m : Nat} (hp : p < gm_n G) (hm : m < gm_l G p) {A : Nat → Prop} {fl : Prop} {W0 : Nat → Int32} (hA : ∀ t, t < 32 → (bt (W0 m) t = true ↔ A t)) (post : Int32 → SY → Prop) (J14 : _) (x1 : Int32) (hJ : ∀ x3 WY, yw_f x3 (fl ∨ ∃ k, k ≤ wn ∧ A k ∧ yw_c G wn a_beyond p m k) → (∀ m', m' ≠ m + 1 → WY m' = W0 m') → (∀ t, t < 32 → (bt (WY (m + 1)) t = true ↔ ∃ k, k ≤ wn ∧ A k ∧ dr_sy (yt_R a_reach wn) w (gm_s G p m) k t)) → J14 x3 (nI (m + 1)) a_pRule a_pScope a_pLen a_sym a_role a_first a_follow a_kind a_val a_len a_word a_reach a_beyond WY a_known a_bad a_part a_scopes a_inner a_tRule a_tFrom a_tTo a_before) :
    ∀ d k x3 WY, k + d = wn + 1 → yw_f x3 (fl ∨ ∃ k', k' < k ∧ A k' ∧ yw_c G wn a_beyond p m k') → (∀ m', m' ≠ m + 1 → WY m' = W0 m') → (∀ t, t < 32 → (bt (WY (m + 1)) t = true ↔ ∃ k', k' < k ∧ A k' ∧ dr_sy (yt_R a_reach wn) w (gm_s G p m) k' t)) → wY_walk_51 post J14 x1 (nI m) (nI (gm_s G p m)) f_np f_built f_some f_empty f_wn f_nt (d + 1) x3 (nI k) a_pRule a_pScope a_pLen a_sym a_role a_first a_follow a_kind a_val a_len a_word a_reach a_beyond WY a_known a_bad a_part a_scopes a_inner a_tRule a_tFrom a_tTo a_before := by
  obtain ⟨h14, h6, hl, hs16⟩ := gm_p0 hG hp
  have hs := hs16 m hm
  have hw0 := hw
  obtain ⟨h1, h2, h3, h4⟩ := hw
  have cM : (nI m).toNatClampNeg = m := nI_clamp (by omega)
  intro d
  induction d with
  | zero =>
    intro k x3 WY hk hf ho hb
    have e : k = wn + 1 := by omega
    subst e
    rw [wY_walk_51]
    dsimp only
    refine br_t (by rw [h1]; exact nI_lt (by omega) (by omega)) (nm_r (nI_1 m) (hJ x3 WY (yw_fi ?_ hf) ho (fun t ht => (hb t ht).trans ?_)))
    · exact ⟨fun z => z.elim Or.inl (fun ⟨k', a, b⟩ => Or.inr ⟨k', by omega, b⟩), fun z => z.elim Or.inl (fun ⟨k', a, b⟩ => Or.inr ⟨k', by omega, b⟩)⟩
    · exact ⟨fun ⟨k', a, b⟩ => ⟨k', by omega, b⟩, fun ⟨k', a, b⟩ => ⟨k', by omega, b⟩⟩
  | succ d ih =>
    intro k x3 WY hk hf ho hb
    have hkw : k ≤ wn := by omega
    have hbit : bt (WY m) k = true ↔ A k := by
      rw [ho m (by omega)]; exact hA k (by omega)
    rw [wY_walk_51]
    dsimp only
    rw [cM]
    refine br_f (by rw [h1]; exact nI_nlt (by omega) (by omega)) ⟨vp_in_nI (by omega) (by omega), ?_⟩
    rcases Classical.em (A k) with hAk | hAk
    · refine br_f (by rw [ba_sh (by omega), hbit.mpr hAk]; decide) ?_
      -- the step after the flag
      have go : ∀ x3', yw_f x3' (fl ∨ ∃ k', k' < k + 1 ∧ A k' ∧ yw_c G wn a_beyond p m k') → wY_walk_114 post J14 (wY_walk_51 post J14 x1 (nI m) (nI (gm_s G p m)) f_np f_built f_some f_empty f_wn f_nt (d + 1)) x1 x3' (nI m) (nI (gm_s G p m)) (nI k) f_np f_built f_some f_empty f_wn f_nt a_pRule a_pScope a_pLen a_sym a_role a_first a_follow a_kind a_val a_len a_word a_reach a_beyond WY a_known a_bad a_part a_scopes a_inner a_tRule a_tFrom a_tTo a_before := by
        intro x3' hf'
        refine ym_w114 hw0 (by omega) hkw hs post J14 _ x1 x3' (fun WY' o' b' => ih (k + 1) x3' WY' (by omega) hf' (fun m' hm' => (o' m' hm').trans (ho m' hm')) (fun t ht => ?_))
        rw [b' t ht, hb t ht]
        constructor
        · rintro (⟨k', a, b⟩ | h)
          · exact ⟨k', by omega, b⟩
          · exact ⟨k, by omega, hAk, h⟩
        · rintro ⟨k', a, b⟩
          rcases Nat.lt_or_ge k' k with y | y
          · exact Or.inl ⟨k', y, b⟩
          · have e : k' = k := by omega
            subst e; exact Or.inr b.2
      have ft : yw_c G wn a_beyond p m k → yw_f 1 (fl ∨ ∃ k', k' < k + 1 ∧ A k' ∧ yw_c G wn a_beyond p m k') := fun z => Or.inl ⟨rfl, Or.inr ⟨k, by omega, hAk, z⟩⟩
      have ff : ¬ yw_c G wn a_beyond p m k → yw_f x3 (fl ∨ ∃ k', k' < k + 1 ∧ A k' ∧ yw_c G wn a_beyond p m k') := fun z => yw_fi ⟨fun q => q.elim Or.inl (fun ⟨k', a, b⟩ => Or.inr ⟨k', by omega, b⟩), fun q => q.elim Or.inl (fun ⟨k', a, b⟩ => by
        rcases Nat.lt_or_ge k' k with y | y
        · exact Or.inr ⟨k', y, b⟩
        · have e : k' = k := by omega
          subst e; exact absurd b.2 z)⟩ hf
      unfold wY_walk_112
      rw [h1]
      rw [← h1]
      refine ek_if (c := nI k = f_wn) (d := k = wn) (by rw [h1]; exact nI_eq (by omega) (by omega)) (fun e => go 1 (ft (Or.inl e))) (fun e => pk_le (gm_s G p m) 9 (fun z => go x3 (ff (fun y => y.elim e (fun q => by omega)))) (fun z => ?_))
      have cS : (nI (gm_s G p m - 10)).toNatClampNeg = gm_s G p m - 10 := nI_clamp (by omega)
      rw [ba_m10 (by omega), cS]
      refine ⟨vp_in_nI (by omega) (by omega), ?_⟩
      rcases Classical.em (bt (a_beyond (gm_s G p m - 10)) k = true) with q | q
      · exact br_f (by rw [ba_sh (by omega), q]; decide) (go 1 (ft (Or.inr ⟨by omega, q⟩)))
      · exact br_t ((ba_sh (by omega)).mpr (by cases h : bt (a_beyond (gm_s G p m - 10)) k <;> simp_all)) (go x3 (ff (fun y => y.elim e (fun r => q r.2))))
    · refine br_t ((ba_sh (by omega)).mpr (by cases h : bt (WY m) k <;> simp_all)) (nm_r (nI_1 k) (ih (k + 1) x3 WY (by omega) (yw_fi ?_ hf) ho (fun t ht => (hb t ht).trans ?_)))
      · exact ⟨fun q => q.elim Or.inl (fun ⟨k', a, b⟩ => Or.inr ⟨k', by omega, b⟩), fun q => q.elim Or.inl (fun ⟨k', a, b⟩ => by
          rcases Nat.lt_or_ge k' k with y | y
          · exact Or.inr ⟨k', y, b⟩
          · have e : k' = k := by omega
            subst e; exact absurd b.1 hAk)⟩
      · exact ⟨fun ⟨k', a, b⟩ => ⟨k', by omega, b⟩, fun ⟨k', a, b⟩ => by
          rcases Nat.lt_or_ge k' k with y | y
          · exact ⟨k', y, b⟩
          · have e : k' = k := by omega
            subst e; exact absurd b.1 hAk⟩
theorem yt_ub {w : Nat → Nat} {wn : Nat} {RE : Nat → Int32} (h4 : ∀ x, wn ≤ x → w x = 10) (hb : ∀ n j t, yt_R RE wn n j t → t ≤ wn) {p i : Nat} (hi : i ≤ wn) : ∀ m k, dr_sg G (yt_R RE wn) w p m 0 i k → k ≤ wn
  | 0, k, h => by have h : i = k := h; omega
  | m + 1, k, h => by
    obtain ⟨q, a, b⟩ := dr_ns h
    have l := yt_ub h4 hb hi m q a
    rcases b with ⟨b1, b2, b3⟩ | ⟨_, b⟩
    · rcases Nat.lt_or_ge q wn with z | z
      · omega
      · have := h4 q z; omega
    · exact hb _ _ _ b
theorem ym_w14 (hG : gm_ok G) (hy : yg_ok G f_np a_pRule a_pScope a_pLen a_sym a_role) {w : Nat → Nat} {wn : Nat} (hw : yt_w w wn f_wn a_word) (hb : ∀ n j t, yt_R a_reach wn n j t → t ≤ wn) {p i : Nat} (hp : p < gm_n G) (hi : i ≤ wn) (post : Int32 → SY → Prop) (hP : ∀ r WY, yw_f r (yw_p G w wn a_reach a_beyond p i) → (∀ m, m ≤ gm_l G p → ∀ t, t < 32 → (bt (WY m) t = true ↔ dr_sg G (yt_R a_reach wn) w p m 0 i t)) → post r (f_np, f_built, f_some, f_empty, f_wn, f_nt, a_pRule, a_pScope, a_pLen, a_sym, a_role, a_first, a_follow, a_kind, a_val, a_len, a_word, a_reach, a_beyond, WY, a_known, a_bad, a_part, a_scopes, a_inner, a_tRule, a_tFrom, a_tTo, a_before)) :
    ∀ d m x3 WY, m + d = gm_l G p → yw_f x3 (∃ m' k, m' < m ∧ k ≤ wn ∧ dr_sg G (yt_R a_reach wn) w p m' 0 i k ∧ yw_c G wn a_beyond p m' k) → (∀ m', m' ≤ m → ∀ t, t < 32 → (bt (WY m') t = true ↔ dr_sg G (yt_R a_reach wn) w p m' 0 i t)) → wY_walk_14 post (nI p) f_np f_built f_some f_empty f_wn f_nt (d + 1) x3 (nI m) a_pRule a_pScope a_pLen a_sym a_role a_first a_follow a_kind a_val a_len a_word a_reach a_beyond WY a_known a_bad a_part a_scopes a_inner a_tRule a_tFrom a_tTo a_before := by
  obtain ⟨h14, h6, hl, hs16⟩ := gm_p0 hG hp
  obtain ⟨_, _, e3, e4⟩ := hy.2 p hp
  have i1 : vp_in (nI p) 14 := vp_in_nI h14 (by omega)
  have c1 : (nI p).toNatClampNeg = p := nI_clamp (by omega)
  have hw0 := hw
  obtain ⟨h1, h2, h3, h4⟩ := hw
  intro d
  induction d with
  | zero =>
    intro m x3 WY hm hf hB
    have e : m = gm_l G p := by omega
    subst e
    have cL : (nI (gm_l G p)).toNatClampNeg = gm_l G p := nI_clamp (by omega)
    have hbit := hB (gm_l G p) (Nat.le_refl _) wn (by omega)
    rw [wY_walk_14]
    dsimp only
    rw [c1, e3, cL]
    refine ⟨i1, br_t (nI_le (by omega) (by omega)) ?_⟩
    rcases hf with ⟨e, hf⟩ | ⟨e, hf⟩
    · subst e
      obtain ⟨m', k, q⟩ := hf
      exact br_f (by decide) (hP 1 WY (Or.inl ⟨rfl, Or.inl ⟨m', k, q⟩⟩) hB)
    · subst e
      refine br_t rfl ⟨i1, vp_in_nI (by omega) (by omega), ?_⟩
      rw [h1]
      rw [← h1]
      rcases Classical.em (dr_sg G (yt_R a_reach wn) w p (gm_l G p) 0 i wn) with z | z
      · refine br_f ?_ (hP 1 WY (Or.inl ⟨rfl, Or.inr z⟩) hB)
        rw [h1, ba_sh (by omega), hbit.mpr z]; decide
      · refine br_t ?_ (hP 0 WY (Or.inr ⟨rfl, fun y => y.elim (fun ⟨m', k, q⟩ => hf ⟨m', k, q⟩) z⟩) hB)
        rw [h1, ba_sh (by omega)]
        cases h : bt (WY (gm_l G p)) wn
        · rfl
        · exact absurd (hbit.mp h) z
  | succ d ih =>
    intro m x3 WY hm hf hB
    have hm2 : m < gm_l G p := by omega
    have h16 := hs16 m hm2
    have c2 : (nI (p * 4 + m)).toNatClampNeg = p * 4 + m := nI_clamp (by omega)
    have i2 : vp_in (nI (p * 4 + m)) 56 := vp_in_nI (by omega) (by omega)
    have cM : (nI (m + 1)).toNatClampNeg = m + 1 := nI_clamp (by omega)
    rw [wY_walk_14]
    dsimp only
    rw [c1, e3, ba_4x, c2, (e4 m hm2).1, nI_1 m, cM]
    refine ⟨i1, br_f (nI_ge (by omega) (by omega)) ⟨i2, nm_e ⟨vp_in_nI (by omega) (by omega), nm_e ⟨wn + 1 + 1, ?_⟩⟩⟩⟩
    refine ym_w51 hG hw0 hp hm2 (A := fun k => dr_sg G (yt_R a_reach wn) w p m 0 i k) (fl := ∃ m' k, m' < m ∧ k ≤ wn ∧ dr_sg G (yt_R a_reach wn) w p m' 0 i k ∧ yw_c G wn a_beyond p m' k) (W0 := upd WY (m + 1) 0) (fun t ht => ?_) post _ (nI p) (fun x3' WY' f' o' b' => ih (m + 1) x3' WY' (by omega) (yw_fi ?_ f') (fun m' hm' t ht => ?_)) (wn + 1) 0 x3 _ (by omega) (yw_fi ?_ hf) (fun _ _ => rfl) (fun t ht => ?_)
    · rw [pk_un (by omega)]; exact hB m (Nat.le_refl _) t ht
    · constructor
      · rintro (⟨m', k, a, b⟩ | ⟨k, a, b, c⟩)
        · exact ⟨m', k, by omega, b⟩
        · exact ⟨m, k, by omega, a, b, c⟩
      · rintro ⟨m', k, a, b, c, e⟩
        rcases Nat.lt_or_ge m' m with y | y
        · exact Or.inl ⟨m', k, y, b, c, e⟩
        · have q : m' = m := by omega
          subst q; exact Or.inr ⟨k, b, c, e⟩
    · rcases Nat.lt_or_ge m' (m + 1) with y | y
      · rw [o' m' (by omega), pk_un (by omega)]
        exact hB m' (by omega) t ht
      · have q : m' = m + 1 := by omega
        subst q
        rw [b' t ht]
        constructor
        · rintro ⟨k, a, b, c⟩
          exact dr_sn b c
        · intro h
          obtain ⟨k, a, b⟩ := dr_ns h
          exact ⟨k, yt_ub h4 hb hi m k a, a, b⟩
    · exact ⟨Or.inl, fun z => z.elim id (fun ⟨k', a, _⟩ => by omega)⟩
    · rw [pk_us, b_0]
      exact ⟨fun h => absurd h (by decide), fun ⟨k', a, _⟩ => by omega⟩
theorem ym_walk (hG : gm_ok G) (hy : yg_ok G f_np a_pRule a_pScope a_pLen a_sym a_role) {w : Nat → Nat} {wn : Nat} (hw : yt_w w wn f_wn a_word) (hb : ∀ n j t, yt_R a_reach wn n j t → t ≤ wn) {p i : Nat} (hp : p < gm_n G) (hi : i ≤ wn) (post : Int32 → SY → Prop) (hP : ∀ r WY, yw_f r (yw_p G w wn a_reach a_beyond p i) → (∀ m, m ≤ gm_l G p → ∀ t, t < 32 → (bt (WY m) t = true ↔ dr_sg G (yt_R a_reach wn) w p m 0 i t)) → post r (f_np, f_built, f_some, f_empty, f_wn, f_nt, a_pRule, a_pScope, a_pLen, a_sym, a_role, a_first, a_follow, a_kind, a_val, a_len, a_word, a_reach, a_beyond, WY, a_known, a_bad, a_part, a_scopes, a_inner, a_tRule, a_tFrom, a_tTo, a_before)) : wpY_walk post (f_np, f_built, f_some, f_empty, f_wn, f_nt, a_pRule, a_pScope, a_pLen, a_sym, a_role, a_first, a_follow, a_kind, a_val, a_len, a_word, a_reach, a_beyond, a_way, a_known, a_bad, a_part, a_scopes, a_inner, a_tRule, a_tFrom, a_tTo, a_before) (nI p) (nI i) := by
  have hwn := hw.2.1
  unfold wpY_walk
  dsimp only
  refine nm_e ⟨gm_l G p + 1, ym_w14 hG hy hw hb hp hi post hP (gm_l G p) 0 0 _ (by omega) (Or.inr ⟨rfl, fun ⟨m', k, a, _⟩ => by omega⟩) (fun m' hm' t ht => ?_)⟩
  have e : m' = 0 := by omega
  subst e
  rw [pk_us, ba_one i (by omega) t ht, decide_eq_true_iff]
  exact ⟨fun h => h.symm, fun h => h.symm⟩
end
