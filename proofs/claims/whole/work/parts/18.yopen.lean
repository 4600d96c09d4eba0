/-! Y's tree: open -/
theorem dr_Sub {G : gm_G} {w : Nat → Nat} {wn : Nat} (h4 : ∀ x, wn ≤ x → w x = 10) {p c m i j : Nat} (hi : i ≤ wn) (h : dr_S G w p c m i j) : j ≤ wn := by
  rcases Nat.lt_or_ge wn j with z | z
  · have := dr_S10 h hi z
    rw [h4 wn (Nat.le_refl _)] at this
    omega
  · exact z
theorem yt_RD {G : gm_G} (hG : gm_ok G) {w : Nat → Nat} {wn : Nat} {RE BE : Nat → Int32} (h4 : ∀ x, wn ≤ x → w x = 10) (hn : wn ≤ 21) (hs : yt_s G w wn RE BE) (hc : yt_c G w wn 0 RE BE) {n j t : Nat} (hj : j ≤ wn) : yt_R RE wn n j t ↔ dr_D G w n j t :=
  ⟨hs.1 n j t, fun h => ⟨dr_D6 hG h, hj, by have := dr_Dub h4 hj h; omega, hc.1 n j t (Nat.zero_le _) hj h⟩⟩
theorem yt_RS {G : gm_G} (hG : gm_ok G) {w : Nat → Nat} {wn : Nat} {RE BE : Nat → Int32} (h4 : ∀ x, wn ≤ x → w x = 10) (hn : wn ≤ 21) (hs : yt_s G w wn RE BE) (hc : yt_c G w wn 0 RE BE) {p m i t : Nat} (hi : i ≤ wn) : dr_sg G (yt_R RE wn) w p m 0 i t ↔ dr_S G w p m 0 i t := by
  constructor
  · exact fun h => dr_sg_m1 hs.1 h
  · intro h
    have l := dr_Sub h4 hi h
    refine dr_sg_mo (lo := i) (hi := t) dr_D_le (fun n' a b l1 l2 z => ?_) (fun _ _ _ => rfl) m 0 i t (Nat.le_refl _) (Nat.le_refl _) h
    have l3 := dr_D_le _ _ _ z
    exact (yt_RD hG h4 hn hs hc (by omega)).mpr z
def yo_E (TR TF TT : Nat → Int32) (q n i j : Nat) : Prop := TR q = nI n ∧ TF q = nI i ∧ TT q = nI j
/-- what a write into the roles may do -/
def yo_p (G : gm_G) (w : Nat → Nat) (f p i j : Nat) (PA PA' : Nat → Int32) : Prop := ∀ y, PA' y = PA y ∨ ∃ x m, y = f * 20 + x ∧ tr_C G w p i j m x (x + 1) ∧ gm_s G p m < 10 ∧ PA' y = nI (gm_o G p m)
theorem yo_pr {G : gm_G} {w : Nat → Nat} {f p i j : Nat} {PA : Nat → Int32} : yo_p G w f p i j PA PA := fun _ => Or.inl rfl
theorem yo_pt {G : gm_G} {w : Nat → Nat} {f p i j : Nat} {PA PA' PA2 : Nat → Int32} (h : yo_p G w f p i j PA PA') (h' : yo_p G w f p i j PA' PA2) : yo_p G w f p i j PA PA2 := by
  intro y
  rcases h' y with z | z
  · rcases h y with q | ⟨x, m, q1, q2, q3, q4⟩
    · exact Or.inl (z.trans q)
    · exact Or.inr ⟨x, m, q1, q2, q3, z.trans q4⟩
  · exact Or.inr z
/-- the children and the terminals of (p, i, j) from symbol c on are down -/
def yo_c (G : gm_G) (w : Nat → Nat) (f p i j lv q0 nt c : Nat) (TR TF TT PA : Nat → Int32) : Prop :=
  (∀ q, q0 ≤ q → q < nt → ∃ m a b, yo_E TR TF TT q (gm_s G p m - 10) a b ∧ tr_C G w p i j m a b ∧ 10 ≤ gm_s G p m ∧ dr_L G w lv (gm_s G p m - 10) a b) ∧
  (∀ m a b, c ≤ m → tr_C G w p i j m a b → (10 ≤ gm_s G p m → ∃ q, q0 ≤ q ∧ q < nt ∧ yo_E TR TF TT q (gm_s G p m - 10) a b) ∧ (gm_s G p m < 10 → PA (f * 20 + a) = nI (gm_o G p m)))
section
variable {f_np f_built f_some f_empty f_wn f_nt : Int32} {a_pRule a_pScope a_pLen a_sym a_role a_first a_follow a_kind a_val a_len a_word a_reach a_beyond a_way a_known a_bad a_part a_scopes a_inner a_tRule a_tFrom a_tTo a_before : Nat → Int32} {G : gm_G}
theorem ym_below {nt n i j : Nat} (hn : n < 128) (hi : i < 128) (hj : j < 128) (hnt : nt < 400) (he : f_nt = nI nt) (post : SY → Prop) (hP : post (f_np, f_built, f_some, f_empty, f_wn, nI (nt + 1), a_pRule, a_pScope, a_pLen, a_sym, a_role, a_first, a_follow, a_kind, a_val, a_len, a_word, a_reach, a_beyond, a_way, a_known, a_bad, a_part, a_scopes, a_inner, upd a_tRule nt (nI n), upd a_tFrom nt (nI i), upd a_tTo nt (nI j), a_before)) : wpY_below post (f_np, f_built, f_some, f_empty, f_wn, f_nt, a_pRule, a_pScope, a_pLen, a_sym, a_role, a_first, a_follow, a_kind, a_val, a_len, a_word, a_reach, a_beyond, a_way, a_known, a_bad, a_part, a_scopes, a_inner, a_tRule, a_tFrom, a_tTo, a_before) (nI n) (nI i) (nI j) := by
  subst he
  have c1 : (nI nt).toNatClampNeg = nt := nI_clamp (by omega)
  have i1 : vp_in (nI nt) 400 := vp_in_nI hnt (by omega)
  unfold wpY_below
  dsimp only
  rw [c1]
  exact ⟨i1, nm_r (congrArg _ (by rw [ba_nb _ hn, ba_vb hn])) ⟨i1, nm_r (congrArg _ (by rw [ba_nb _ hi, ba_vb hi])) (nm_r (nI_1 nt) ⟨i1, nm_r (congrArg _ (by rw [ba_nb _ hj, ba_vb hj])) hP⟩)⟩⟩
theorem ym_o179 {p m k e nt : Nat} (hm : m < 5) (he : e ≤ 20) (hs : 10 ≤ gm_s G p m) (hs16 : gm_s G p m < 16) (hnt : nt < 400) (hen : f_nt = nI nt) (h1 : bt (a_way m) k = true) (h2 : bt (a_reach ((gm_s G p m - 10) * 22 + k)) e = true) (hu : ∀ x, k < x → x ≤ e → bt (a_way m) x = true → bt (a_reach ((gm_s G p m - 10) * 22 + x)) e = true → False) (post : SY → Prop) (J119 : _) (x1 x5 : Int32) (hJ : J119 (nI k) (nI m - 1) f_np f_built f_some f_empty f_wn (nI (nt + 1)) a_pRule a_pScope a_pLen a_sym a_role a_first a_follow a_kind a_val a_len a_word a_reach a_beyond a_way a_known a_bad a_part a_scopes a_inner (upd a_tRule nt (nI (gm_s G p m - 10))) (upd a_tFrom nt (nI k)) (upd a_tTo nt (nI e)) a_before) :
    ∀ d x, x = k + d → x ≤ e → wY_open_179 post J119 x1 x5 (nI e) (nI m) (nI (gm_s G p m)) f_np f_built f_some f_empty f_wn f_nt a_pRule a_pScope a_pLen a_sym a_role a_first a_follow a_kind a_val a_len a_word a_reach a_beyond a_way a_known a_bad a_part a_scopes a_inner a_tRule a_tFrom a_tTo a_before (d + 1) (nI x) := by
  have cM : (nI m).toNatClampNeg = m := nI_clamp (by omega)
  have iM : vp_in (nI m) 5 := vp_in_nI hm (by omega)
  intro d
  induction d with
  | zero =>
    intro x hx hxe
    have ex : x = k := by omega
    subst ex
    have cI : (nI ((gm_s G p m - 10) * 22 + x)).toNatClampNeg = (gm_s G p m - 10) * 22 + x := nI_clamp (by omega)
    rw [wY_open_179]
    dsimp only
    rw [cM, ba_m10 hs, ba_22x, cI]
    refine ⟨iM, br_f (by rw [ba_sh (by omega), h1]; decide) ⟨vp_in_nI (by omega) (by omega), br_f (by rw [ba_sh (by omega), h2]; decide) ?_⟩⟩
    exact ym_below (by omega) (by omega) (by omega) hnt hen _ (nm_r ba_s hJ)
  | succ d ih =>
    intro x hx hxe
    have cI : (nI ((gm_s G p m - 10) * 22 + x)).toNatClampNeg = (gm_s G p m - 10) * 22 + x := nI_clamp (by omega)
    have nx : wY_open_179 post J119 x1 x5 (nI e) (nI m) (nI (gm_s G p m)) f_np f_built f_some f_empty f_wn f_nt a_pRule a_pScope a_pLen a_sym a_role a_first a_follow a_kind a_val a_len a_word a_reach a_beyond a_way a_known a_bad a_part a_scopes a_inner a_tRule a_tFrom a_tTo a_before (d + 1) (nI (x - 1)) := ih (x - 1) (by omega) (by omega)
    rw [wY_open_179]
    dsimp only
    rw [cM, ba_m10 hs, ba_22x, cI]
    rcases Classical.em (bt (a_way m) x = true) with q | q
    · refine ⟨iM, br_f (by rw [ba_sh (by omega), q]; decide) ⟨vp_in_nI (by omega) (by omega), br_t ?_ (nm_r (ba_s1 (by omega)) nx)⟩⟩
      rw [ba_sh (by omega)]
      cases h : bt (a_reach ((gm_s G p m - 10) * 22 + x)) e
      · rfl
      · exact (hu x (by omega) hxe q h).elim
    · refine ⟨iM, br_t ?_ (nm_r (ba_s1 (by omega)) nx)⟩
      rw [ba_sh (by omega)]
      cases h : bt (a_way m) x
      · rfl
      · exact absurd h q
theorem ym_o119 (hG : gm_gd G) (hy : yg_ok G f_np a_pRule a_pScope a_pLen a_sym a_role) {w : Nat → Nat} {wn : Nat} {f p i j lv q0 : Nat} (hf : f < 4) (hwn : wn ≤ 20) (h4 : ∀ x, wn ≤ x → w x = 10) (hs : yt_s G w wn a_reach a_beyond) (hc : yt_c G w wn 0 a_reach a_beyond) (hp : p < gm_n G) (hj : j ≤ wn) (hW : gm_W G (w j) (gm_r G p)) (hway : ∀ m, m ≤ gm_l G p → ∀ t, t < 32 → (bt (a_way m) t = true ↔ dr_S G w p m 0 i t)) (hq : q0 + 3 * (lv + 1) ≤ 378) {PA0 TR0 TF0 TT0 : Nat → Int32} (post : SY → Prop) (hP : ∀ nt PA TR TF TT, q0 ≤ nt → nt ≤ q0 + 4 → yo_p G w f p i j PA0 PA → (∀ q, q < q0 → TR q = TR0 q ∧ TF q = TF0 q ∧ TT q = TT0 q) → yo_c G w f p i j lv q0 nt 0 TR TF TT PA → post (f_np, f_built, f_some, f_empty, f_wn, nI nt, a_pRule, a_pScope, a_pLen, a_sym, a_role, a_first, a_follow, a_kind, a_val, a_len, a_word, a_reach, a_beyond, a_way, a_known, a_bad, PA, a_scopes, a_inner, TR, TF, TT, a_before)) :
    ∀ c e nt PA TR TF TT, c ≤ gm_l G p → q0 ≤ nt → nt + c ≤ q0 + gm_l G p → dr_sg G (dr_L G w lv) w p c 0 i e → dr_S G w p (gm_l G p - c) c e j → yo_p G w f p i j PA0 PA → (∀ q, q < q0 → TR q = TR0 q ∧ TF q = TF0 q ∧ TT q = TT0 q) → yo_c G w f p i j lv q0 nt c TR TF TT PA → wY_open_119 post (nI f) (nI p) (c + 1) (nI e) (nI c - 1) f_np f_built f_some f_empty f_wn (nI nt) a_pRule a_pScope a_pLen a_sym a_role a_first a_follow a_kind a_val a_len a_word a_reach a_beyond a_way a_known a_bad PA a_scopes a_inner TR TF TT a_before := by
  obtain ⟨h14, h6, hl, hs16⟩ := gm_p0 hG.1 hp
  obtain ⟨_, _, e3, e4⟩ := hy.2 p hp
  intro c
  induction c with
  | zero =>
    intro e nt PA TR TF TT hcl hn1 hn2 H1 H2 hpa hst hcc
    rw [wY_open_119]
    dsimp only
    exact br_t (by decide) (hP nt PA TR TF TT hn1 (by omega) hpa hst hcc)
  | succ c ih =>
    intro e nt PA TR TF TT hcl hn1 hn2 H1 H2 hpa hst hcc
    have h16 := hs16 c (by omega)
    have le := dr_S_le H2
    have c2 : (nI (p * 4 + c)).toNatClampNeg = p * 4 + c := nI_clamp (by omega)
    have i2 : vp_in (nI (p * 4 + c)) 56 := vp_in_nI (by omega) (by omega)
    obtain ⟨k, K1, K2⟩ := dr_ns H1
    have lk := dr_sy_le (dr_L_le lv) K2
    have li := dr_sg_le (dr_L_le lv) _ _ _ _ K1
    have K1' : dr_S G w p c 0 i k := dr_sg_m1 (fun _ _ _ z => ⟨lv, z⟩) K1
    have K2' : dr_sy (dr_D G w) w (gm_s G p c) k e := K2.elim Or.inl (fun z => Or.inr ⟨z.1, lv, z.2⟩)
    have C0 : tr_C G w p i j c k e := ⟨by omega, K1', K2', H2⟩
    have S0 := tr_C0 C0
    rw [wY_open_119]
    dsimp only
    rw [nI_pred, ba_4x, c2, (e4 c (by omega)).1]
    refine br_f (nI_pos (by omega)) ⟨i2, nm_e ?_⟩
    rcases Nat.lt_or_ge (gm_s G p c) 10 with z | z
    · have ek : e = k + 1 := by
        rcases K2 with ⟨_, _, x⟩ | ⟨x, _⟩
        · exact x
        · omega
      subst ek
      have cI : (nI (f * 20 + k)).toNatClampNeg = f * 20 + k := nI_clamp (by omega)
      refine br_f (nI_ge (b := 10) z (by omega)) (nm_r (pk_m1 k) ?_)
      rw [ba_20x, cI, (e4 c (by omega)).2 z]
      have hro := ((hG.1.2.1 p hp).2.2.2 c (by omega)).2 z
      refine ⟨i2, vp_in_nI (by omega) (by omega), nm_r (congrArg _ (ba_vb (by omega))) (nm_r ba_s ?_)⟩
      refine ih k nt _ TR TF TT (by omega) hn1 (by omega) K1 S0 (yo_pt hpa (fun y => ?_)) hst ⟨hcc.1, fun m a b hm hC => ?_⟩
      · rcases Classical.em (y = f * 20 + k) with q | q
        · subst q
          exact Or.inr ⟨k, c, rfl, C0, z, pk_us⟩
        · exact Or.inl (pk_un q)
      · rcases Nat.lt_or_ge c m with y | y
        · obtain ⟨r1, r2⟩ := hcc.2 m a b y hC
          refine ⟨r1, fun t => ?_⟩
          have hne : a ≠ k := by
            have := tr_Cm hG (Or.inl hp) hW C0 hC y
            omega
          rw [pk_un (by omega)]
          exact r2 t
        · have em : m = c := by omega
          subst em
          obtain ⟨e1, e2⟩ := tr_Cs hG (Or.inl hp) hW hC C0
          subst e1
          refine ⟨fun t => by omega, fun _ => pk_us⟩
    · have K3 : dr_L G w lv (gm_s G p c - 10) k e := by
        rcases K2 with ⟨x, _⟩ | ⟨_, x⟩
        · omega
        · exact x
      refine br_t (nI_le (a := 10) z (by omega)) ⟨e - k + 1, ?_⟩
      refine ym_o179 (k := k) (by omega) (by omega) z h16 (by omega) rfl ((hway c (by omega) k (by omega)).mpr K1') ((yt_RD hG.1 h4 (by omega) hs hc (by omega)).mpr ⟨lv, K3⟩).2.2.2 (fun x x1 x2 x3 x4 => ?_) post _ (nI f) (nI p) ?_ (e - k) e (by omega) (Nat.le_refl _)
      · have hx3 := (hway c (by omega) x (by omega)).mp x3
        have hx4 : dr_D G w (gm_s G p c - 10) x e := hs.1 _ _ _ ⟨by omega, by omega, by omega, x4⟩
        have C1 : tr_C G w p i j c x e := ⟨by omega, hx3, Or.inr ⟨z, hx4⟩, H2⟩
        have := (tr_Cs hG (Or.inl hp) hW C0 C1).1
        omega
      · refine ih k (nt + 1) PA _ _ _ (by omega) (by omega) (by omega) K1 S0 hpa (fun q hq => ?_) ⟨fun q q1 q2 => ?_, fun m a b hm hC => ?_⟩
        · rw [pk_un (by omega), pk_un (by omega), pk_un (by omega)]
          exact hst q hq
        · rcases Classical.em (q = nt) with y | y
          · subst y
            exact ⟨c, k, e, ⟨pk_us, pk_us, pk_us⟩, C0, z, K3⟩
          · obtain ⟨m, a, b, r1, r2⟩ := hcc.1 q q1 (by omega)
            exact ⟨m, a, b, ⟨(pk_un y).trans r1.1, (pk_un y).trans r1.2.1, (pk_un y).trans r1.2.2⟩, r2⟩
        · rcases Nat.lt_or_ge c m with y | y
          · obtain ⟨r1, r2⟩ := hcc.2 m a b y hC
            refine ⟨fun t => ?_, r2⟩
            obtain ⟨q, s1, s2, s3⟩ := r1 t
            have ne : q ≠ nt := by omega
            exact ⟨q, s1, by omega, (pk_un ne).trans s3.1, (pk_un ne).trans s3.2.1, (pk_un ne).trans s3.2.2⟩
          · have em : m = c := by omega
            subst em
            obtain ⟨e1, e2⟩ := tr_Cs hG (Or.inl hp) hW hC C0
            subst e1 e2
            exact ⟨fun _ => ⟨nt, hn1, by omega, pk_us, pk_us, pk_us⟩, fun t => by omega⟩
/-- the scopes: a bit for the node if it is marked and not empty -/
def yo_s (f k i j : Nat) (SP SP' : Nat → Int32) : Prop := (k = 1 ∧ i < j → SP' = upd SP (f * 20 + i) (SP (f * 20 + i) ||| ((1 : Int32) <<< (nI (j - 1) &&& 31)))) ∧ (¬ (k = 1 ∧ i < j) → SP' = SP)
theorem ym_o6 (hG : gm_gd G) (hy : yg_ok G f_np a_pRule a_pScope a_pLen a_sym a_role) {w : Nat → Nat} {wn : Nat} {f p i j lv q0 : Nat} (hf : f < 4) (hwn : wn ≤ 20) (hw : yt_w w wn f_wn a_word) (hs : yt_s G w wn a_reach a_beyond) (hc : yt_c G w wn 0 a_reach a_beyond) (hp : p < gm_n G) (hij : i ≤ j) (hj : j ≤ wn) (hW : gm_W G (w j) (gm_r G p)) (hL : dr_sg G (dr_L G w lv) w p (gm_l G p) 0 i j) (hq : q0 + 3 * (lv + 1) ≤ 378) (hen : f_nt = nI q0) (post : SY → Prop) (hP : ∀ nt WY PA SP TR TF TT, q0 ≤ nt → nt ≤ q0 + 4 → yo_p G w f p i j a_part PA → yo_s f (gm_k G p) i j a_scopes SP → (∀ q, q < q0 → TR q = a_tRule q ∧ TF q = a_tFrom q ∧ TT q = a_tTo q) → yo_c G w f p i j lv q0 nt 0 TR TF TT PA → post (f_np, f_built, f_some, f_empty, f_wn, nI nt, a_pRule, a_pScope, a_pLen, a_sym, a_role, a_first, a_follow, a_kind, a_val, a_len, a_word, a_reach, a_beyond, WY, a_known, a_bad, PA, SP, a_inner, TR, TF, TT, a_before)) :
    ∀ d q WY, q + d = p → wY_open_6 post (nI f) (nI (gm_r G p)) (nI i) (nI j) (d + 2) (nI q) 0 f_np f_built f_some f_empty f_wn f_nt a_pRule a_pScope a_pLen a_sym a_role a_first a_follow a_kind a_val a_len a_word a_reach a_beyond WY a_known a_bad a_part a_scopes a_inner a_tRule a_tFrom a_tTo a_before := by
  obtain ⟨h14, h6, hl, hs16⟩ := gm_p0 hG.1 hp
  have hLS : dr_S G w p (gm_l G p) 0 i j := dr_sg_m1 (fun _ _ _ z => ⟨lv, z⟩) hL
  have hk1 := (hG.1.2.1 p hp).2.2.1
  have h4 := hw.2.2.2
  -- a production that also derives the span is p
  have un : ∀ q, q < gm_n G → gm_r G q = gm_r G p → dr_S G w q (gm_l G q) 0 i j → q = p := by
    intro q hq hr h
    have P1 := ll_P hG.1 h (by rw [hr]; exact hW)
    have P2 := ll_P hG.1 hLS hW
    exact ll_un hG hq hp hr P1.2 P1.1 P2.1
  intro d
  induction d with
  | zero =>
    intro q WY hqp
    have e : q = p := by omega
    subst e
    have c1 : (nI q).toNatClampNeg = q := nI_clamp (by omega)
    have i1 : vp_in (nI q) 14 := vp_in_nI h14 (by omega)
    have cL : (nI (gm_l G q)).toNatClampNeg = gm_l G q := nI_clamp (by omega)
    have iL : vp_in (nI (gm_l G q)) 5 := vp_in_nI (by omega) (by omega)
    rw [wY_open_6]
    dsimp only
    rw [c1, (hy.2 q hp).1]
    refine br_t rfl ⟨i1, br_t rfl (ym_walk hG.1 hy hw (yt_sb h4 hs) hp (by omega) _ (fun r WY' hr hwy => ?_))⟩
    dsimp only
    rw [(hy.2 q hp).2.2.1, cL]
    have hway : ∀ m, m ≤ gm_l G q → ∀ t, t < 32 → (bt (WY' m) t = true ↔ dr_S G w q m 0 i t) := fun m hm t ht => (hwy m hm t ht).trans (yt_RS hG.1 h4 (by omega) hs hc (by omega))
    refine ⟨i1, iL, br_f (by rw [ba_sh (by omega), (hway _ (Nat.le_refl _) j (by omega)).mpr hLS]; decide) ?_⟩
    unfold wY_open_55 wY_open_57
    refine br_f (by decide) ?_
    rw [wY_open_6]
    dsimp only
    rw [c1, (hy.2 q hp).2.1]
    -- from the scope on
    have fin : ∀ SP, yo_s f (gm_k G q) i j a_scopes SP → wY_open_104 post (nI f) (nI j) (nI q) f_np f_built f_some f_empty f_wn f_nt a_pRule a_pScope a_pLen a_sym a_role a_first a_follow a_kind a_val a_len a_word a_reach a_beyond WY' a_known a_bad a_part SP a_inner a_tRule a_tFrom a_tTo a_before := by
      intro SP hSP
      unfold wY_open_104
      rw [c1, (hy.2 q hp).2.2.1]
      refine ⟨i1, nm_e ⟨gm_l G q + 1, ?_⟩⟩
      subst hen
      refine ym_o119 hG hy (PA0 := a_part) (TR0 := a_tRule) (TF0 := a_tFrom) (TT0 := a_tTo) hf hwn h4 hs hc hp hj hW hway hq post (fun nt PA TR TF TT a1 a2 a3 a4 a5 => hP nt WY' PA SP TR TF TT a1 a2 a3 hSP a4 a5) (gm_l G q) j q0 a_part a_tRule a_tFrom a_tTo (Nat.le_refl _) (Nat.le_refl _) (by omega) hL (by rw [Nat.sub_self]; exact rfl) yo_pr (fun _ _ => ⟨rfl, rfl, rfl⟩) ⟨fun q q1 q2 => by omega, fun m a b hm hC => by have := hC.1; omega⟩
    refine br_f (by decide) ⟨i1, pk_eq (gm_k G q) 0 (fun z => fin _ ⟨fun y => by omega, fun _ => rfl⟩) (fun z => pk_le j i (fun y => fin _ ⟨fun u => by omega, fun _ => rfl⟩) (fun y => ?_))⟩
    have cI : (nI (f * 20 + i)).toNatClampNeg = f * 20 + i := nI_clamp (by omega)
    have iI : vp_in (nI (f * 20 + i)) 80 := vp_in_nI (by omega) (by omega)
    rw [ba_20x, cI, ba_m1 (by omega)]
    exact ⟨iI, iI, nm_e (fin _ ⟨fun _ => rfl, fun u => absurd ⟨by omega, y⟩ u⟩)⟩
  | succ d ih =>
    intro q WY hqp
    have hqn : q < gm_n G := by omega
    obtain ⟨_, r6, rl, _⟩ := gm_p0 hG.1 hqn
    have c1 : (nI q).toNatClampNeg = q := nI_clamp (by omega)
    have i1 : vp_in (nI q) 14 := vp_in_nI (by omega) (by omega)
    have cL : (nI (gm_l G q)).toNatClampNeg = gm_l G q := nI_clamp (by omega)
    have iL : vp_in (nI (gm_l G q)) 5 := vp_in_nI (by omega) (by omega)
    rw [wY_open_6]
    dsimp only
    rw [c1, (hy.2 q hqn).1]
    refine br_t rfl ⟨i1, pk_eq (gm_r G q) (gm_r G p) (fun e => ?_) (fun e => ?_)⟩
    · refine ym_walk hG.1 hy hw (yt_sb h4 hs) hqn (by omega) _ (fun r WY' hr hwy => ?_)
      dsimp only
      rw [(hy.2 q hqn).2.2.1, cL]
      refine ⟨i1, iL, br_t ?_ ?_⟩
      · rw [ba_sh (by omega)]
        cases h : bt (WY' (gm_l G q)) j
        · rfl
        · have := un q hqn e ((yt_RS hG.1 h4 (by omega) hs hc (by omega)).mp ((hwy _ (Nat.le_refl _) j (by omega)).mp h))
          omega
      · unfold wY_open_55 wY_open_57
        exact br_t rfl (nm_r (nI_1 q) (ih (q + 1) WY' (by omega)))
    · unfold wY_open_57
      exact br_t rfl (nm_r (nI_1 q) (ih (q + 1) WY (by omega)))
theorem ym_open (hG : gm_gd G) (hy : yg_ok G f_np a_pRule a_pScope a_pLen a_sym a_role) {w : Nat → Nat} {wn : Nat} {f p i j lv q0 : Nat} (hf : f < 4) (hwn : wn ≤ 20) (hw : yt_w w wn f_wn a_word) (hs : yt_s G w wn a_reach a_beyond) (hc : yt_c G w wn 0 a_reach a_beyond) (hp : p < gm_n G) (hij : i ≤ j) (hj : j ≤ wn) (hW : gm_W G (w j) (gm_r G p)) (hL : dr_sg G (dr_L G w lv) w p (gm_l G p) 0 i j) (hq : q0 + 3 * (lv + 1) ≤ 378) (hen : f_nt = nI q0) (post : SY → Prop) (hP : ∀ nt WY PA SP TR TF TT, q0 ≤ nt → nt ≤ q0 + 4 → yo_p G w f p i j a_part PA → yo_s f (gm_k G p) i j a_scopes SP → (∀ q, q < q0 → TR q = a_tRule q ∧ TF q = a_tFrom q ∧ TT q = a_tTo q) → yo_c G w f p i j lv q0 nt 0 TR TF TT PA → post (f_np, f_built, f_some, f_empty, f_wn, nI nt, a_pRule, a_pScope, a_pLen, a_sym, a_role, a_first, a_follow, a_kind, a_val, a_len, a_word, a_reach, a_beyond, WY, a_known, a_bad, PA, SP, a_inner, TR, TF, TT, a_before)) : wpY_open post (f_np, f_built, f_some, f_empty, f_wn, f_nt, a_pRule, a_pScope, a_pLen, a_sym, a_role, a_first, a_follow, a_kind, a_val, a_len, a_word, a_reach, a_beyond, a_way, a_known, a_bad, a_part, a_scopes, a_inner, a_tRule, a_tFrom, a_tTo, a_before) (nI f) (nI (gm_r G p)) (nI i) (nI j) :=
  ⟨p + 2, ym_o6 hG hy hf hwn hw hs hc hp hij hj hW hL hq hen post hP p 0 a_way (by omega)⟩
end
