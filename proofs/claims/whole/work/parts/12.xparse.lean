/-! X's parse: finish, parse -/
theorem px_e_le {G : gm_G} {w : Nat → Nat} {k t : Nat} (h : px_e G w k t) : t ≤ 10 := by
  obtain ⟨w', j, a, b, c, e, f⟩ := h
  rcases Nat.lt_or_ge k j with z | z
  · have := dr_lt10 f (Nat.zero_le _) z; omega
  · have q : k = j := by omega
    subst q; omega
theorem px_e_s {G : gm_G} {w : Nat → Nat} {n : Nat} (hw : w n = 10) : px_e G w n 10 ↔ dr_D G w 0 0 n := by
  constructor
  · intro ⟨w', j, a, b, c, e, f⟩
    rcases Nat.lt_or_ge n j with z | z
    · have := dr_lt10 f (Nat.zero_le _) z; omega
    · have q : n = j := by omega
      subst q
      exact dr_D_w (fun x _ hx => a x hx) f
  · intro h
    exact ⟨w, n, fun _ _ => rfl, hw, Nat.le_refl _, hw, h⟩
theorem px_e_dn {G : gm_G} {w : Nat → Nat} {i k t : Nat} (hi : i < k) (h : px_e G w k t) : px_e G w i (w i) := by
  obtain ⟨w', j, a, b, c, e, f⟩ := h
  exact ⟨w', j, fun x hx => a x (by omega), a i hi, by omega, e, f⟩
theorem px_e_d {G : gm_G} {w : Nat → Nat} {i n : Nat} (hw : w n = 10) (hi : i < n) (h : dr_D G w 0 0 n) : px_e G w i (w i) := px_e_dn hi ((px_e_s hw).mpr h)
theorem px_via {G : gm_G} (hG : gm_gd G) {w : Nat → Nat} {i d : Nat} {P X : Nat → Nat} (ho : st_ok G P X d) (hI : st_I G w i i P X d) : ∃ t, px_e G w i t := by
  obtain ⟨w', j, a, b, c, e⟩ := st_pr (X := X) hG d (fun a ha => (ho.2 a ha).1) w i
  exact ⟨w' i, w', j, a, rfl, b, c, (hI w' j a b c).mpr e⟩
def px_b (G : gm_G) (w : Nat → Nat) (n : Nat) (fa : Int32) : Prop := (dr_D G w 0 0 n ∧ fa = -1) ∨ (¬ dr_D G w 0 0 n ∧ ∃ k, k ≤ n ∧ fa = nI k ∧ (∃ t, px_e G w k t) ∧ (k < n → ¬ px_e G w k (w k)))
theorem px_bu {G : gm_G} {w : Nat → Nat} {n : Nat} {a b : Int32} (ha : px_b G w n a) (hb : px_b G w n b) : a = b := by
  rcases ha with ⟨x, y⟩ | ⟨x, k, k1, k2, ⟨t, k3⟩, k4⟩
  · rcases hb with ⟨_, y'⟩ | ⟨x', _⟩
    · rw [y, y']
    · exact absurd x x'
  · rcases hb with ⟨x', _⟩ | ⟨_, l, l1, l2, ⟨t', l3⟩, l4⟩
    · exact absurd x' x
    · rw [k2, l2]
      rcases Nat.lt_trichotomy k l with z | z | z
      · exact absurd (px_e_dn z l3) (k4 (by omega))
      · rw [z]
      · exact absurd (px_e_dn z k3) (l4 (by omega))
def xf_ok (G : gm_G) (w : Nat → Nat) (n : Nat) (fa : Int32) (ex ro sc : Nat → Int32) : Prop := (∀ k, k ≤ n → gm_ms (ex k) (px_e G w k)) ∧ px_b G w n fa ∧ (∀ x, x < 20 → ro x = nI (px_r G w n x)) ∧ (∀ x, x < 20 → sc x = nI (px_c G w n x) - 1)
theorem st_Tf {G : gm_G} (hG : gm_gd G) {w : Nat → Nat} {len : Nat} (hw : w len = 10) {P X S : Nat → Nat} {d : Nat} (hT : st_T G w len P X S (d + 1) len) : tr_N G w len d (P d) (S d) len ∧ st_T G w len P X S d len := by
  obtain ⟨e', a, b, c, f⟩ := hT
  have l := dr_S_le b
  have q := (tr_b hG hw d _ _ _ c).2.2.2.2
  have e : e' = len := by omega
  subst e
  exact ⟨c, f⟩
section
variable {f_built f_productionCount f_depth : Int32} {a_ruleOf a_marked a_symbolCount a_symbols a_roles a_derives a_first a_follow a_textLength a_kindAt a_valueAt a_failsAt a_expectedAt a_roleAt a_scopeAt a_openProduction a_openNext a_openStart a_targetBefore : Nat → Int32} {G : gm_G}
theorem xp_fi48 (hG : gm_gd G) (hx : xg_ok G f_productionCount a_ruleOf a_marked a_symbolCount a_symbols a_roles) {w : Nat → Nat} {len f : Nat} (hf : f < 4) (hw : w len = 10) (hn : len ≤ 20) {P X S : Nat → Nat} {SC0 : Nat → Int32} (post : SX → Prop) (hP : ∀ SC, mk_S G w len len P S 0 (fun x => SC (f * 20 + x)) → xo_r 20 f SC0 SC → post (f_built, f_productionCount, nI 0, a_ruleOf, a_marked, a_symbolCount, a_symbols, a_roles, a_derives, a_first, a_follow, a_textLength, a_kindAt, a_valueAt, a_failsAt, a_expectedAt, a_roleAt, SC, a_openProduction, a_openNext, a_openStart, a_targetBefore)) :
    ∀ c k d SC, k + c = 121 → d ≤ c → xp_a P X S d a_openProduction a_openNext a_openStart → (∀ a, a < d → gm_v G (P a)) → st_s S d len → st_T G w len P X S d len → mk_S G w len len P S d (fun x => SC (f * 20 + x)) → xo_r 20 f SC0 SC → wX_finish_48 post (nI f) (nI len) (c + 1) (nI k) f_built f_productionCount (nI d) a_ruleOf a_marked a_symbolCount a_symbols a_roles a_derives a_first a_follow a_textLength a_kindAt a_valueAt a_failsAt a_expectedAt a_roleAt SC a_openProduction a_openNext a_openStart a_targetBefore := by
  intro c
  induction c with
  | zero =>
    intro k d SC hk hd ha hv hs hT hM ho
    have e : d = 0 := by omega
    subst e
    rw [wX_finish_48]
    dsimp only
    exact br_t (nI_le (a := 121) (by omega) (by omega)) (hP SC hM ho)
  | succ c ih =>
    intro k d SC hk hd ha hv hs hT hM ho
    rw [wX_finish_48]
    dsimp only
    refine br_f (nI_ge (b := 121) (by omega) (by omega)) ?_
    cases d with
    | zero =>
      unfold wpX_close
      dsimp only
      exact br_t rfl (nm_r (nI_1 k) (ih (k + 1) 0 SC (by omega) (by omega) ha hv hs hT hM ho))
    | succ d =>
      obtain ⟨t1, t2⟩ := st_Tf hG hw hT
      have hs' : st_s S d len := ⟨fun a b x y => hs.1 a b x (by omega), fun a ha => hs.2 a (by omega)⟩
      refine xp_cl hG.1 hx hf (hs.2 d (by omega)) hn (by omega) (hv d (by omega)) rfl (ha d (by omega)).1 (ha d (by omega)).2.2 _ (fun hk1 => nm_r (nI_1 k) (ih (k + 1) d _ (by omega) (by omega) (fun a h => ha a (by omega)) (fun a h => hv a (by omega)) hs' t2 ?_ (xo_rt ho (xp_wo hn)))) (fun hk0 => nm_r (nI_1 k) (ih (k + 1) d _ (by omega) (by omega) (fun a h => ha a (by omega)) (fun a h => hv a (by omega)) hs' t2 (mk_Su hG hw hn hk0 hM) ho))
      rw [xp_wc]
      exact mk_Sm hG hw hn hk1 hs t1 hM
def xq_P (G : gm_G) (w : Nat → Nat) (len f : Nat) (FA0 EX0 RO0 SC0 FA EX RO SC : Nat → Int32) : Prop := xf_ok G w len (FA f) (fun k => EX (f * 21 + k)) (fun x => RO (f * 20 + x)) (fun x => SC (f * 20 + x)) ∧ (∀ g, g ≠ f → FA g = FA0 g) ∧ xo_r 21 f EX0 EX ∧ xo_r 20 f RO0 RO ∧ xo_r 20 f SC0 SC
/-- it fails at k -/
theorem xp_bad (hG : gm_gd G) {w : Nat → Nat} {len f k : Nat} (hf : f < 4) (hw : w len = 10) (hn : len ≤ 20) (hk : k ≤ len) {FA0 EX0 RO0 SC0 EX : Nat → Int32} (hno : ¬ dr_D G w 0 0 len) (hv : ∃ t, px_e G w k t) (hnx : k < len → ¬ px_e G w k (w k)) (hE : ∀ x, x ≤ k → gm_ms (EX (f * 21 + x)) (px_e G w x)) (hE0 : ∀ x, k < x → x < 21 → EX (f * 21 + x) = 0) (hEo : xo_r 21 f EX0 EX) (hRo : xo_r 20 f RO0 a_roleAt) (hSo : xo_r 20 f SC0 a_scopeAt) (post : SX → Prop) (hP : ∀ FA RO SC, xq_P G w len f FA0 EX0 RO0 SC0 FA EX RO SC → post (f_built, f_productionCount, f_depth, a_ruleOf, a_marked, a_symbolCount, a_symbols, a_roles, a_derives, a_first, a_follow, a_textLength, a_kindAt, a_valueAt, FA, EX, RO, SC, a_openProduction, a_openNext, a_openStart, a_targetBefore)) : wpX_clearMarks post (f_built, f_productionCount, f_depth, a_ruleOf, a_marked, a_symbolCount, a_symbols, a_roles, a_derives, a_first, a_follow, a_textLength, a_kindAt, a_valueAt, upd FA0 f (nI k), EX, a_roleAt, a_scopeAt, a_openProduction, a_openNext, a_openStart, a_targetBefore) (nI f) := by
  refine xp_cm hf post (fun RO SC h1 h2 h3 => hP _ RO SC ⟨⟨fun x hx => ?_, Or.inr ⟨hno, k, hk, pk_us, hv, hnx⟩, fun x hx => ?_, fun x hx => ?_⟩, fun g hg => pk_un hg, hEo, xo_rt hRo h2, xo_rt hSo h3⟩)
  · rcases Nat.lt_or_ge k x with z | z
    · intro t ht
      have : (fun k => EX (f * 21 + k)) x = 0 := hE0 x z (by omega)
      rw [this, b_0]
      exact ⟨fun q => absurd q (by decide), fun q => absurd (px_e_dn z q) (hnx (by omega))⟩
    · exact hE x z
  · rw [px_r0 hno]; exact (h1 x hx).1
  · rw [px_c0 hno]; exact (h1 x hx).2
theorem xp_fi (hG : gm_gd G) (hx : xg_ok G f_productionCount a_ruleOf a_marked a_symbolCount a_symbols a_roles) (hB : ∀ n, n < 6 → gm_ms (a_first n) (fun t => t ≤ 10 ∧ gm_FU G t n)) {w : Nat → Nat} {len f : Nat} (hf : f < 4) (hw : w len = 10) (hn : len ≤ 20) {d : Nat} {P X S : Nat → Nat} (he : f_depth = nI d) (hH : xp_H G w len f len d P X S a_openProduction a_openNext a_openStart a_roleAt a_scopeAt) {EX0 RO0 SC0 : Nat → Int32} (hE : ∀ x, x < len → gm_ms (a_expectedAt (f * 21 + x)) (px_e G w x)) (hE0 : ∀ x, len ≤ x → x < 21 → a_expectedAt (f * 21 + x) = 0) (hEo : xo_r 21 f EX0 a_expectedAt) (hRo : xo_r 20 f RO0 a_roleAt) (hSo : xo_r 20 f SC0 a_scopeAt) (post : SX → Prop) (hP : ∀ d FA EX RO SC, xq_P G w len f a_failsAt EX0 RO0 SC0 FA EX RO SC → post (f_built, f_productionCount, d, a_ruleOf, a_marked, a_symbolCount, a_symbols, a_roles, a_derives, a_first, a_follow, a_textLength, a_kindAt, a_valueAt, FA, EX, RO, SC, a_openProduction, a_openNext, a_openStart, a_targetBefore)) : wpX_finish post (f_built, f_productionCount, f_depth, a_ruleOf, a_marked, a_symbolCount, a_symbols, a_roles, a_derives, a_first, a_follow, a_textLength, a_kindAt, a_valueAt, a_failsAt, a_expectedAt, a_roleAt, a_scopeAt, a_openProduction, a_openNext, a_openStart, a_targetBefore) (nI f) (nI len) := by
  have hH0 := hH
  obtain ⟨h1, h2, h3, h4, h5, h6⟩ := hH
  have cE : (nI (f * 21 + len)).toNatClampNeg = f * 21 + len := nI_clamp (by omega)
  have iE : vp_in (nI (f * 21 + len)) 84 := vp_in_nI (by omega) (by omega)
  have cF : (nI f).toNatClampNeg = f := nI_clamp (by omega)
  have iF : vp_in (nI f) 4 := vp_in_nI (by omega) (by omega)
  unfold wpX_finish
  dsimp only
  rw [ba_x21, cE, cF]
  refine xp_fo hG.1 hx hB (by omega) he h3 h2 _ (fun r hr => ⟨iE, nm_e ?_⟩)
  have hr' : gm_ms r (px_e G w len) := gm_ms_if hr (fun t _ => st_mask hG h3 h5 t)
  have hE' : ∀ x, x ≤ len → gm_ms (upd a_expectedAt (f * 21 + len) r (f * 21 + x)) (px_e G w x) := by
    intro x hx
    rcases Nat.lt_or_ge x len with z | z
    · rw [pk_un (by omega)]; exact hE x z
    · have e : x = len := by omega
      subst e
      rw [pk_us]; exact hr'
  have hE0' : ∀ x, len < x → x < 21 → upd a_expectedAt (f * 21 + len) r (f * 21 + x) = 0 := fun x h1 h2 => by rw [pk_un (by omega)]; exact hE0 x (by omega) h2
  rcases Classical.em (dr_D G w 0 0 len) with hd | hd
  · have b10 : bt r 10 = true := (hr' 10 (by omega)).mpr ((px_e_s hw).mpr hd)
    obtain ⟨m1, m2, m3⟩ := h6 hd
    refine br_f (by rw [ba_t1024, b10]; decide) ⟨iF, nm_e ⟨121 + 1, ?_⟩⟩
    subst he
    refine xp_fi48 (X := X) hG hx hf hw hn post (fun SC q1 q2 => hP _ _ _ _ _ ⟨⟨hE', Or.inl ⟨hd, pk_us⟩, fun x hx => mk_endR hG hw hd m2 hx, fun x hx => mk_end hG hw hn hd q1 hx⟩, fun g hg => pk_un hg, xo_rt hEo (xo_ru (by omega)), hRo, q2⟩) 121 0 d a_scopeAt (by omega) (by omega) h2 (fun a ha => (h3.2 a ha).1) h4 m1 m3 hSo
  · have b10 : bt r 10 = false := by
      cases hh : bt r 10
      · rfl
      · exact absurd ((px_e_s hw).mp ((hr' 10 (by omega)).mp hh)) hd
    refine br_t (ba_t1024.mpr b10) ⟨iF, nm_e (xp_bad hG hf hw hn (Nat.le_refl _) hd (px_via hG h3 h5) (fun z => absurd z (Nat.lt_irrefl _)) hE' hE0' (xo_rt hEo (xo_ru (by omega))) hRo hSo _ (fun FA RO SC q => hP _ FA _ RO SC q))⟩
theorem xp_pa31 (hG : gm_gd G) (hx : xg_ok G f_productionCount a_ruleOf a_marked a_symbolCount a_symbols a_roles) (hB : ∀ n, n < 6 → gm_ms (a_first n) (fun t => t ≤ 10 ∧ gm_FU G t n)) {w : Nat → Nat} {len f : Nat} (hf : f < 4) (hw : w len = 10) (hn : len ≤ 20) (hK : ∀ x, x < len → a_kindAt (f * 20 + x) = nI (w x) ∧ w x < 10) {EX0 RO0 SC0 : Nat → Int32} (post : SX → Prop) (hP : ∀ d FA EX RO SC OP ON OS, xq_P G w len f a_failsAt EX0 RO0 SC0 FA EX RO SC → post (f_built, f_productionCount, d, a_ruleOf, a_marked, a_symbolCount, a_symbols, a_roles, a_derives, a_first, a_follow, a_textLength, a_kindAt, a_valueAt, FA, EX, RO, SC, OP, ON, OS, a_targetBefore)) :
    ∀ c i d P X S OP ON OS EX RO SC, i + c = len → xp_H G w len f i d P X S OP ON OS RO SC → (∀ x, x < i → gm_ms (EX (f * 21 + x)) (px_e G w x)) → (∀ x, i ≤ x → x < 21 → EX (f * 21 + x) = 0) → xo_r 21 f EX0 EX → xo_r 20 f RO0 RO → xo_r 20 f SC0 SC → wX_parse_31 post (nI f) (nI len) (c + 1) (nI i) f_built f_productionCount (nI d) a_ruleOf a_marked a_symbolCount a_symbols a_roles a_derives a_first a_follow a_textLength a_kindAt a_valueAt a_failsAt EX RO SC OP ON OS a_targetBefore := by
  intro c
  induction c with
  | zero =>
    intro i d P X S OP ON OS EX RO SC hi hH hE hE0 hEo hRo hSo
    have e : i = len := by omega
    subst e
    rw [wX_parse_31]
    dsimp only
    exact br_t (nI_le (by omega) (by omega)) (xp_fi hG hx hB hf hw hn rfl hH hE hE0 hEo hRo hSo _ (fun d FA EX RO SC q => hP d FA EX RO SC _ _ _ q))
  | succ c ih =>
    intro i d P X S OP ON OS EX RO SC hi hH hE hE0 hEo hRo hSo
    have hH0 := hH
    obtain ⟨h1, h2, h3, h4, h5, h6⟩ := hH
    obtain ⟨hk, hc⟩ := hK i (by omega)
    have cE : (nI (f * 21 + i)).toNatClampNeg = f * 21 + i := nI_clamp (by omega)
    have iE : vp_in (nI (f * 21 + i)) 84 := vp_in_nI (by omega) (by omega)
    have cK : (nI (f * 20 + i)).toNatClampNeg = f * 20 + i := nI_clamp (by omega)
    have iK : vp_in (nI (f * 20 + i)) 80 := vp_in_nI (by omega) (by omega)
    have cF : (nI f).toNatClampNeg = f := nI_clamp (by omega)
    have iF : vp_in (nI f) 4 := vp_in_nI (by omega) (by omega)
    rw [wX_parse_31]
    dsimp only
    rw [ba_x21, cE, ba_x20, cK, cF, hk]
    refine br_f (nI_ge (by omega) (by omega)) (xp_fo hG.1 hx hB (by omega) rfl h3 h2 _ (fun r hr => ⟨iE, nm_e ⟨iK, ?_⟩⟩))
    have hr' : gm_ms r (px_e G w i) := gm_ms_if hr (fun t _ => st_mask hG h3 h5 t)
    have hE' : ∀ x, x ≤ i → gm_ms (upd EX (f * 21 + i) r (f * 21 + x)) (px_e G w x) := by
      intro x hx
      rcases Nat.lt_or_ge x i with z | z
      · rw [pk_un (by omega)]; exact hE x z
      · have e : x = i := by omega
        subst e
        rw [pk_us]; exact hr'
    have hE0' : ∀ x, i < x → x < 21 → upd EX (f * 21 + i) r (f * 21 + x) = 0 := fun x h1 h2 => by rw [pk_un (by omega)]; exact hE0 x (by omega) h2
    rcases Classical.em (px_e G w i (w i)) with q | q
    · have b : bt r (w i) = true := (hr' _ (by omega)).mpr q
      refine br_f (by rw [ba_t1 (by omega), b]; decide) (xp_tk hG hx hB hf (by omega) hw hn hc hk rfl hH0 q _ (fun d P X S OP ON OS RO' SC' g1 g2 g3 => nm_r (nI_1 i) ?_))
      exact ih (i + 1) d P X S OP ON OS _ RO' SC' (by omega) g1 (fun x hx => hE' x (by omega)) (fun x h1 h2 => hE0' x (by omega) h2) (xo_rt hEo (xo_ru (by omega))) (xo_rt hRo g2) (xo_rt hSo g3)
    · have b : bt r (w i) = false := by
        cases hh : bt r (w i)
        · rfl
        · exact absurd ((hr' _ (by omega)).mp hh) q
      refine br_t ((ba_t1 (by omega)).mpr b) ⟨iF, nm_e ?_⟩
      exact xp_bad hG hf hw hn (by omega) (fun z => q (px_e_d hw (by omega) z)) (px_via hG h3 h5) (fun _ => q) hE' hE0' (xo_rt hEo (xo_ru (by omega))) hRo hSo _ (fun FA RO SC z => hP _ FA _ RO SC _ _ _ z)
theorem xp_pa (hG : gm_gd G) (hx : xg_ok G f_productionCount a_ruleOf a_marked a_symbolCount a_symbols a_roles) (hB : ∀ n, n < 6 → gm_ms (a_first n) (fun t => t ≤ 10 ∧ gm_FU G t n)) {w : Nat → Nat} {len f : Nat} (hf : f < 4) (hw : w len = 10) (hn : len ≤ 20) (hL : a_textLength f = nI len) (hK : ∀ x, x < len → a_kindAt (f * 20 + x) = nI (w x) ∧ w x < 10) (post : SX → Prop) (hP : ∀ d FA EX RO SC OP ON OS, xq_P G w len f a_failsAt a_expectedAt a_roleAt a_scopeAt FA EX RO SC → post (f_built, f_productionCount, d, a_ruleOf, a_marked, a_symbolCount, a_symbols, a_roles, a_derives, a_first, a_follow, a_textLength, a_kindAt, a_valueAt, FA, EX, RO, SC, OP, ON, OS, a_targetBefore)) : wpX_parse post (f_built, f_productionCount, f_depth, a_ruleOf, a_marked, a_symbolCount, a_symbols, a_roles, a_derives, a_first, a_follow, a_textLength, a_kindAt, a_valueAt, a_failsAt, a_expectedAt, a_roleAt, a_scopeAt, a_openProduction, a_openNext, a_openStart, a_targetBefore) (nI f) := by
  have cF : (nI f).toNatClampNeg = f := nI_clamp (by omega)
  have iF : vp_in (nI f) 4 := vp_in_nI (by omega) (by omega)
  unfold wpX_parse
  dsimp only
  refine xp_cm hf _ (fun RO SC a1 a2 a3 => xp_ce hf _ (fun EX b1 b2 => ?_))
  refine xp_op (d := 0) (p := 14) (i := 0) (by omega) rfl _ ?_
  dsimp only
  rw [cF]
  refine ⟨iF, nm_r hL ⟨len + 1, ?_⟩⟩
  refine xp_pa31 hG hx hB hf hw hn hK post hP len 0 1 (fun _ => 14) (fun _ => 0) (fun _ => 0) _ _ _ EX RO SC (by omega) ⟨by omega, fun a ha => ?_, ⟨rfl, fun a ha => ⟨Or.inr rfl, Nat.zero_le _, fun h => by omega⟩⟩, ⟨fun _ _ _ _ => Nat.le_refl _, fun _ _ => Nat.le_refl _⟩, fun w' j _ _ hj => ?_, fun hd => ⟨⟨len, rfl, ?_, ?_, rfl⟩, fun x hx => ⟨fun z => by omega, fun _ => (a1 x hx).1⟩, fun x hx => Or.inl (a1 x hx).2, fun x k p a b h => by omega⟩⟩ (fun x h => by omega) (fun x _ h => b1 x h) b2 a2 a3
  · have e : a = 0 := by omega
    subst e
    rw [pk_us, pk_us, pk_us]
    exact ⟨rfl, rfl, rfl⟩
  · have l14 := hG.1.2.2.2.1
    have s14 := hG.1.2.2.2.2.1
    constructor
    · intro z
      refine ⟨j, ?_, rfl⟩
      show dr_S G w' 14 (gm_l G 14 - 0) 0 0 j
      rw [l14]
      exact dr_1 (Or.inr ⟨by omega, by rw [s14]; exact z⟩)
    · intro ⟨k, z, e⟩
      have e : k = j := e
      subst e
      have z : dr_S G w' 14 (gm_l G 14 - 0) 0 0 k := z
      rw [l14] at z
      obtain ⟨q, z1, z2⟩ := z
      have z2 : q = k := z2
      subst z2
      rw [s14] at z1
      rcases z1 with ⟨z1, _⟩ | ⟨_, z1⟩
      · omega
      · exact z1
  · show dr_S G w 14 (gm_l G 14 - 0) 0 0 len
    rw [hG.1.2.2.2.1]
    exact dr_1 (Or.inr ⟨by rw [hG.1.2.2.2.2.1]; omega, by rw [hG.1.2.2.2.2.1]; exact hd⟩)
  · refine ⟨rfl, rfl, rfl, ?_⟩
    exact dr_1 (Or.inr ⟨by rw [hG.1.2.2.2.2.1]; omega, by rw [hG.1.2.2.2.2.1]; exact hd⟩)
end
