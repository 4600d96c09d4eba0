/-! X's parse: take -/
def xp_M (G : gm_G) (w : Nat → Nat) (len f i d : Nat) (P X S : Nat → Nat) (RO SC : Nat → Int32) : Prop := dr_D G w 0 0 len → st_T G w len P X S d i ∧ mk_R G w len i (fun x => RO (f * 20 + x)) ∧ mk_S G w len i P S d (fun x => SC (f * 20 + x))
def xp_V (G : gm_G) (w : Nat → Nat) (len f i R d : Nat) (P X S : Nat → Nat) (OP ON OS RO SC : Nat → Int32) : Prop :=
  d ≤ 6 * i + 1 + (6 - R) ∧ R ≤ 6 ∧ xp_a P X S d OP ON OS ∧ st_ok G P X d ∧ st_s S d i ∧ st_I G w (i + 1) i P X d ∧ st_V G w (i + 1) i P X d ∧ (∀ e, d = e + 1 → st_J G (w i) R (P e) (X e)) ∧ xp_M G w len f i d P X S RO SC
def xp_H (G : gm_G) (w : Nat → Nat) (len f i d : Nat) (P X S : Nat → Nat) (OP ON OS RO SC : Nat → Int32) : Prop :=
  d ≤ 6 * i + 1 ∧ xp_a P X S d OP ON OS ∧ st_ok G P X d ∧ st_s S d i ∧ st_I G w i i P X d ∧ xp_M G w len f i d P X S RO SC
theorem xp_wc {f s e : Nat} {A : Nat → Int32} : (fun x => xp_w f s e A (f * 20 + x)) = mk_c (fun x => A (f * 20 + x)) s e := by
  funext x
  unfold xp_w mk_c
  exact ba_if ⟨fun h => ⟨by omega, by omega, h.2.2⟩, fun h => ⟨by omega, by omega, h.2.2⟩⟩
theorem xp_wo {f s e : Nat} {A : Nat → Int32} (he : e ≤ 20) : xo_r 20 f A (xp_w f s e A) := fun y hy => if_neg (by omega)
section
variable {G : gm_G} {w : Nat → Nat} {len f i R e : Nat} {P X S : Nat → Nat} {OP ON OS RO SC : Nat → Int32}
theorem xp_Vd {d : Nat} (hc : w i < 10) (h : xp_V G w len f i R d P X S OP ON OS RO SC) : ∃ e, d = e + 1 := by
  obtain ⟨w', j, a, b, c, q⟩ := h.2.2.2.2.2.2.1
  cases d with
  | zero =>
    have q : i = j := q
    subst q
    rw [a i (by omega)] at c
    omega
  | succ d => exact ⟨d, rfl⟩
/-- close -/
theorem xp_Vc (hG : gm_gd G) (hw : w len = 10) (hn : len ≤ 20) (hX : X e = gm_l G (P e)) (h : xp_V G w len f i R (e + 1) P X S OP ON OS RO SC) : (gm_k G (P e) = 1 → xp_V G w len f i R e P X S OP ON OS RO (xp_w f (S e) i SC)) ∧ (¬ gm_k G (P e) = 1 → xp_V G w len f i R e P X S OP ON OS RO SC) := by
  obtain ⟨h1, h2, h3, h4, h5, h6, h7, h8, h9⟩ := h
  have hR : R = 6 := by
    rcases h8 e rfl with z | ⟨m', a, b, _⟩
    · exact z
    · omega
  have base : ∀ SC', (dr_D G w 0 0 len → mk_S G w len i P S e (fun x => SC' (f * 20 + x))) → xp_V G w len f i R e P X S OP ON OS RO SC' := fun SC' hS =>
    ⟨by omega, h2, fun a ha => h3 a (by omega), st_cO h4, ⟨fun a b x y => h5.1 a b x (by omega), fun a ha => h5.2 a (by omega)⟩, st_cI hX h6, st_cV hX h7, fun _ _ => Or.inl hR, fun hd => ⟨(st_Tc hX (h9 hd).1).2, (h9 hd).2.1, hS hd⟩⟩
  refine ⟨fun hk => base _ (fun hd => ?_), fun hk => base _ (fun hd => mk_Su hG hw hn hk (h9 hd).2.2)⟩
  rw [xp_wc]
  exact mk_Sm hG hw hn hk h5 (st_Tc hX (h9 hd).1).1 (h9 hd).2.2
/-- a rule that cannot begin with the token -/
theorem xp_Vk (hG : gm_gd G) (hc : w i < 10) (hx : X e < gm_l G (P e)) (hs : 10 ≤ gm_s G (P e) (X e)) (hF : ¬ gm_F G (w i) (gm_s G (P e) (X e) - 10)) (h : xp_V G w len f i R (e + 1) P X S OP ON OS RO SC) : xp_V G w len f i R (e + 1) P (ud X e (X e + 1)) S OP (upd ON e (nI (X e + 1))) OS RO SC := by
  obtain ⟨h1, h2, h3, h4, h5, h6, h7, h8, h9⟩ := h
  obtain ⟨_, k1, k2⟩ := st_kI hG.1 h7 hx hs hF h6
  refine ⟨h1, h2, fun a ha => ?_, st_oS h4 hx, h5, k1, k2, fun e' he => ?_, fun hd => ⟨st_Tk hG hx hs hF (h9 hd).1, (h9 hd).2⟩⟩
  · obtain ⟨q1, q2, q3⟩ := h3 a ha
    refine ⟨q1, ?_, q3⟩
    rw [ba_up]; unfold ud; split
    · rfl
    · exact q2
  · have e2 : e' = e := by omega
    subst e2
    rw [ud_s]
    exact st_Jk hc (by omega) hF (h8 e' rfl)
/-- a rule that can -/
theorem xp_Ve (hG : gm_gd G) (hw : w len = 10) (hi : i < 20) (hc : w i < 10) (hx : X e < gm_l G (P e)) {p : Nat} (hp : p < gm_n G) (hr : gm_s G (P e) (X e) = 10 + gm_r G p) (hf : gm_fq G (w i) p 0) (h : xp_V G w len f i R (e + 1) P X S OP ON OS RO SC) : 1 ≤ R ∧ e + 1 < 121 ∧ xp_V G w len f i (R - 1) (e + 2) (ud P (e + 1) p) (ud (ud X e (X e + 1)) (e + 1) 0) (ud S (e + 1) i) (upd OP (e + 1) (nI p)) (upd (upd ON e (nI (X e + 1))) (e + 1) 0) (upd OS (e + 1) (nI i)) RO SC := by
  obtain ⟨h1, h2, h3, h4, h5, h6, h7, h8, h9⟩ := h
  have hF : gm_F G (w i) (gm_r G p) := gm_Fe.mpr ⟨(hG.1.2.1 p hp).1, hc, p, hp, rfl, hf.2⟩
  have hL := st_JF hG (h4.2 e (by omega)).1 hc hx hr hF (h8 e rfl)
  obtain ⟨j1, j2⟩ := st_Je hG hp hf hL
  obtain ⟨k1, k2⟩ := st_eI hG h4 h7 hx hp hr hf h6
  refine ⟨j1, by omega, by omega, by omega, fun a ha => ?_, st_eO h4 hx hp hr, st_sk (p := p) h5, k1, k2, fun e' he => ?_, fun hd => ⟨st_Te hG hw hx hp hr hf (h9 hd).1, (h9 hd).2.1, mk_Sk (h9 hd).2.2 h5⟩⟩
  · rcases Classical.em (a = e + 1) with q | q
    · subst q
      rw [pk_us, pk_us, pk_us, ud_s, ud_s, ud_s]
      exact ⟨rfl, rfl, rfl⟩
    · obtain ⟨q1, q2, q3⟩ := h3 a (by omega)
      rw [pk_un (f := OP) q, pk_un (f := upd ON e _) q, pk_un (f := OS) q, ud_n (f := P) q, ud_n (f := ud X e _) q, ud_n (f := S) q]
      refine ⟨q1, ?_, q3⟩
      rw [ba_up]; unfold ud; split
      · rfl
      · exact q2
  · have e2 : e' = e + 1 := by omega
    subst e2
    rw [ud_s, ud_s]
    exact j2
/-- a terminal: the token is taken -/
theorem xp_Vt (hG : gm_gd G) (hw : w len = 10) (hx : X e < gm_l G (P e)) (hs : gm_s G (P e) (X e) < 10) (h : xp_V G w len f i R (e + 1) P X S OP ON OS RO SC) : xp_H G w len f (i + 1) (e + 1) P (ud X e (X e + 1)) S OP (upd ON e (nI (X e + 1))) OS (upd RO (f * 20 + i) (nI (gm_o G (P e) (X e)))) SC := by
  obtain ⟨h1, h2, h3, h4, h5, h6, h7, h8, h9⟩ := h
  refine ⟨by omega, fun a ha => ?_, st_oS h4 hx, ⟨h5.1, fun a ha => by have := h5.2 a ha; omega⟩, (st_tI h7 hx hs h6).2, fun hd => ?_⟩
  · obtain ⟨q1, q2, q3⟩ := h3 a ha
    refine ⟨q1, ?_, q3⟩
    rw [ba_up]; unfold ud; split
    · rfl
    · exact q2
  · obtain ⟨m1, m2, m3⟩ := h9 hd
    obtain ⟨t1, t2⟩ := st_Tt hx hs m1
    refine ⟨t2, ?_, mk_St hG hw h5 t1 t2 m3⟩
    have q := mk_Rt t1 rfl m2
    have eq : (fun x => upd RO (f * 20 + i) (nI (gm_o G (P e) (X e))) (f * 20 + x)) = (fun x => if x = i then nI (gm_o G (P e) (X e)) else RO (f * 20 + x)) := funext (fun x => ba_if (by omega))
    rw [eq]
    exact q
end
section
variable {f_built f_productionCount f_depth : Int32} {a_ruleOf a_marked a_symbolCount a_symbols a_roles a_derives a_first a_follow a_textLength a_kindAt a_valueAt a_failsAt a_expectedAt a_roleAt a_scopeAt a_openProduction a_openNext a_openStart a_targetBefore : Nat → Int32} {G : gm_G}
theorem xp_tk10 (hG : gm_gd G) (hx : xg_ok G f_productionCount a_ruleOf a_marked a_symbolCount a_symbols a_roles) (hB : ∀ n, n < 6 → gm_ms (a_first n) (fun t => t ≤ 10 ∧ gm_FU G t n)) {w : Nat → Nat} {len f i : Nat} (hf : f < 4) (hi : i < 20) (hw : w len = 10) (hn : len ≤ 20) (hc : w i < 10) (hk : a_kindAt (f * 20 + i) = nI (w i)) {RO0 SC0 : Nat → Int32} (post : SX → Prop)
    (hP : ∀ d P X S OP ON OS RO SC, xp_H G w len f (i + 1) d P X S OP ON OS RO SC → xo_r 20 f RO0 RO → xo_r 20 f SC0 SC → post (f_built, f_productionCount, nI d, a_ruleOf, a_marked, a_symbolCount, a_symbols, a_roles, a_derives, a_first, a_follow, a_textLength, a_kindAt, a_valueAt, a_failsAt, a_expectedAt, RO, SC, OP, ON, OS, a_targetBefore)) :
    ∀ μ stp R d P X S OP ON OS RO SC, xp_V G w len f i R d P X S OP ON OS RO SC → xo_r 20 f RO0 RO → xo_r 20 f SC0 SC → st_m G P X d + 5 * R ≤ μ → stp + μ < 1000000 → wX_take_10 post (nI f) (nI i) (nI (f * 20 + i)) (μ + 1) (nI stp) f_built f_productionCount (nI d) a_ruleOf a_marked a_symbolCount a_symbols a_roles a_derives a_first a_follow a_textLength a_kindAt a_valueAt a_failsAt a_expectedAt RO SC OP ON OS a_targetBefore := by
  have iF : vp_in (nI (f * 20 + i)) 80 := vp_in_nI (by omega) (by omega)
  have cF : (nI (f * 20 + i)).toNatClampNeg = f * 20 + i := nI_clamp (by omega)
  intro μ
  induction μ with
  | zero =>
    intro stp R d P X S OP ON OS RO SC hV _ _ hm hs
    obtain ⟨e, rfl⟩ := xp_Vd hc hV
    unfold st_m at hm
    omega
  | succ μ ih =>
    intro stp R d P X S OP ON OS RO SC hV o1 o2 hm hs
    obtain ⟨e, rfl⟩ := xp_Vd hc hV
    have hV0 := hV
    obtain ⟨h1, h2, h3, h4, h5, h6, h7, h8, h9⟩ := hV
    obtain ⟨hv, hl, _⟩ := h4.2 e (by omega)
    obtain ⟨eP, eX, eS⟩ := h3 e (by omega)
    have h15 := gm_v14 hG.1 hv
    have hl4 := gm_vs hG.1 hv
    obtain ⟨_, _, e3, e4⟩ := hx.2 (P e) hv
    have hmm : st_m G P X (e + 1) = (gm_l G (P e) - X e + 1) + st_m G P X e := rfl
    have he : e < 121 := by omega
    have cE : (nI e).toNatClampNeg = e := nI_clamp (by omega)
    have iE : vp_in (nI e) 121 := vp_in_nI he (by omega)
    have cP : (nI (P e)).toNatClampNeg = P e := nI_clamp (by omega)
    have iP : vp_in (nI (P e)) 15 := vp_in_nI h15 (by omega)
    rw [wX_take_10]
    dsimp only
    refine br_f (nI_ge (b := 1000000) (by omega) (by omega)) (br_f (nI_nle (by omega) (by omega)) (nm_r (nI_pred e) ?_))
    rw [cE]
    refine ⟨iE, nm_r eP ⟨iE, nm_r eX ?_⟩⟩
    rw [cP, e3]
    refine ⟨iP, pk_lt (X e) (gm_l G (P e)) (fun hlt => ?_) (fun hge => ?_)⟩
    · have cS : (nI (P e * 4 + X e)).toNatClampNeg = P e * 4 + X e := nI_clamp (by omega)
      have iS : vp_in (nI (P e * 4 + X e)) 60 := vp_in_nI (by omega) (by omega)
      have h16 := hl4.2 _ hlt
      obtain ⟨s1, s2⟩ := e4 _ hlt
      have mx : st_m G P (ud X e (X e + 1)) (e + 1) + 1 = st_m G P X (e + 1) := by
        show (gm_l G (P e) - ud X e (X e + 1) e + 1) + st_m G P (ud X e (X e + 1)) e + 1 = _
        rw [ud_s, hmm, ← st_m_cg (P := P) (X := X) e (fun a ha => ⟨rfl, (ud_n (by omega)).symm⟩)]
        omega
      rw [ba_x4, cS, cF]
      refine ⟨iE, nm_r (congrArg _ (nI_1 (X e))) ⟨iS, nm_r s1 ?_⟩⟩
      refine pk_le 10 (gm_s G (P e) (X e)) (fun hge => ⟨iF, ?_⟩) (fun hlt2 => ⟨iS, iF, ?_⟩)
      · rw [ba_m10 hge, hk]
        refine xp_en hG.1 hx hB (d := e + 1) (fun ⟨p, q1, q2, q3⟩ => (xp_Ve hG hw hi hc hlt q1 (by omega) q3 hV0).2.1) rfl (by omega) hc _ (fun p q1 q2 q3 => ?_) (fun q => ?_)
        · obtain ⟨r1, r2, r3⟩ := xp_Ve hG hw hi hc hlt q1 (by omega) q3 hV0
          refine nm_r (nI_1 stp) (ih (stp + 1) (R - 1) (e + 2) _ _ _ _ _ _ _ _ r3 o1 o2 ?_ (by omega))
          have lp := (gm_vs hG.1 (p := p) (Or.inl q1)).1
          have my : st_m G (ud P (e + 1) p) (ud (ud X e (X e + 1)) (e + 1) 0) (e + 2) = (gm_l G p + 1) + st_m G P (ud X e (X e + 1)) (e + 1) := by
            show (gm_l G (ud P (e + 1) p (e + 1)) - ud (ud X e (X e + 1)) (e + 1) 0 (e + 1) + 1) + st_m G (ud P (e + 1) p) (ud (ud X e (X e + 1)) (e + 1) 0) (e + 1) = _
            rw [ud_s, ud_s, st_m_cg (P' := P) (X' := ud X e (X e + 1)) (e + 1) (fun a ha => ⟨ud_n (by omega), ud_n (by omega)⟩)]
            rfl
          omega
        · have hF : ¬ gm_F G (w i) (gm_s G (P e) (X e) - 10) := by
            intro z
            obtain ⟨_, t, p, a1, a2, a3⟩ := gm_Fe.mp z
            exact q p a1 a2 ⟨t, a3⟩
          exact nm_r (nI_1 stp) (ih (stp + 1) R (e + 1) _ _ _ _ _ _ _ _ (xp_Vk hG hc hlt hge hF hV0) o1 o2 (by omega) (by omega))
      · rw [s2 hlt2]
        exact nm_e (hP _ _ _ _ _ _ _ _ _ (xp_Vt hG hw hlt hlt2 hV0) (xo_rt o1 (xo_ru hi)) o2)
    · have hX : X e = gm_l G (P e) := by omega
      obtain ⟨v1, v0⟩ := xp_Vc hG hw hn hX hV0
      refine xp_cl hG.1 hx hf (h5.2 e (by omega)) (by omega) he hv rfl eP eS _ (fun hk1 => nm_r (nI_1 stp) (ih (stp + 1) R e _ _ _ _ _ _ _ _ (v1 hk1) o1 (xo_rt o2 (xp_wo (by omega))) (by omega) (by omega))) (fun hk0 => nm_r (nI_1 stp) (ih (stp + 1) R e _ _ _ _ _ _ _ _ (v0 hk0) o1 o2 (by omega) (by omega)))
theorem xp_tk (hG : gm_gd G) (hx : xg_ok G f_productionCount a_ruleOf a_marked a_symbolCount a_symbols a_roles) (hB : ∀ n, n < 6 → gm_ms (a_first n) (fun t => t ≤ 10 ∧ gm_FU G t n)) {w : Nat → Nat} {len f i : Nat} (hf : f < 4) (hi : i < 20) (hw : w len = 10) (hn : len ≤ 20) (hc : w i < 10) (hk : a_kindAt (f * 20 + i) = nI (w i)) {d : Nat} {P X S : Nat → Nat} (he : f_depth = nI d) (hH : xp_H G w len f i d P X S a_openProduction a_openNext a_openStart a_roleAt a_scopeAt) (hm : px_e G w i (w i)) (post : SX → Prop)
    (hP : ∀ d P X S OP ON OS RO SC, xp_H G w len f (i + 1) d P X S OP ON OS RO SC → xo_r 20 f a_roleAt RO → xo_r 20 f a_scopeAt SC → post (f_built, f_productionCount, nI d, a_ruleOf, a_marked, a_symbolCount, a_symbols, a_roles, a_derives, a_first, a_follow, a_textLength, a_kindAt, a_valueAt, a_failsAt, a_expectedAt, RO, SC, OP, ON, OS, a_targetBefore)) : wpX_take post (f_built, f_productionCount, f_depth, a_ruleOf, a_marked, a_symbolCount, a_symbols, a_roles, a_derives, a_first, a_follow, a_textLength, a_kindAt, a_valueAt, a_failsAt, a_expectedAt, a_roleAt, a_scopeAt, a_openProduction, a_openNext, a_openStart, a_targetBefore) (nI f) (nI i) := by
  obtain ⟨h1, h2, h3, h4, h5, h6⟩ := hH
  have hV : xp_V G w len f i 6 d P X S a_openProduction a_openNext a_openStart a_roleAt a_scopeAt := ⟨by omega, by omega, h2, h3, h4, fun w' j a b c => h5 w' j (fun x hx => a x (by omega)) b c, st_V1 h5 hm, fun _ _ => Or.inl rfl, h6⟩
  have hb := st_m_le (X := X) hG.1 d (fun a ha => (h3.2 a ha).1)
  subst he
  unfold wpX_take
  dsimp only
  refine nm_r (ba_x20 f i) ⟨5 * d + 30 + 1, ?_⟩
  exact xp_tk10 hG hx hB hf hi hw hn hc hk post hP (5 * d + 30) 0 6 d P X S _ _ _ _ _ hV xo_rr xo_rr (by omega) (by omega)
end
