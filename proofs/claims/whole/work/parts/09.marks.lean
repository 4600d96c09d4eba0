/-! the sentence case: the stack is a path of the tree; roles and scopes -/
noncomputable def cl_pick (P : Nat → Prop) (d : Nat) : Nat := @dite Nat (∃ r, P r) (Classical.propDecidable _) (fun h => Classical.choose h) (fun _ => d)
theorem cl_t {P : Nat → Prop} {d r : Nat} (h : P r) (hu : ∀ r', P r' → r' = r) : cl_pick P d = r := by
  unfold cl_pick
  rw [dif_pos ⟨r, h⟩]
  exact hu _ (Classical.choose_spec ⟨r, h⟩)
theorem cl_f {P : Nat → Prop} {d : Nat} (h : ∀ r, ¬ P r) : cl_pick P d = d := by
  unfold cl_pick
  exact dif_neg (fun ⟨r, z⟩ => h r z)
noncomputable def px_r (G : gm_G) (w : Nat → Nat) (n x : Nat) : Nat := cl_pick (fun r => dr_D G w 0 0 n ∧ ∃ k p m, tr_f G w n k x p m ∧ r = gm_o G p m) 0
noncomputable def px_c (G : gm_G) (w : Nat → Nat) (n x : Nat) : Nat := cl_pick (fun c => dr_D G w 0 0 n ∧ ∃ i j, sc_m G w n x i j ∧ c = 32 * i + j) 0
def st_T (G : gm_G) (w : Nat → Nat) (len : Nat) (P X S : Nat → Nat) : Nat → Nat → Prop
  | 0, e => e = len
  | d + 1, e => ∃ e', dr_S G w (P d) (X d) 0 (S d) e ∧ dr_S G w (P d) (gm_l G (P d) - X d) (X d) e e' ∧ tr_N G w len d (P d) (S d) e' ∧ st_T G w len P X S d e'
theorem st_Tcg {G : gm_G} {w : Nat → Nat} {len : Nat} {P X S P' X' S' : Nat → Nat} : ∀ d e, (∀ a, a < d → P a = P' a ∧ X a = X' a ∧ S a = S' a) → st_T G w len P X S d e → st_T G w len P' X' S' d e
  | 0, _, _, h => h
  | d + 1, e, h, ⟨e', a, b, c, f⟩ => by
    obtain ⟨h1, h2, h3⟩ := h d (by omega)
    rw [h1, h2, h3] at a
    rw [h1, h2] at b
    rw [h1, h3] at c
    exact ⟨e', a, b, c, st_Tcg d e' (fun a ha => h a (by omega)) f⟩
theorem st_Tn {G : gm_G} {w : Nat → Nat} {len : Nat} {P X S : Nat → Nat} : ∀ d e, st_T G w len P X S d e → ∀ a, a < d → ∃ e', tr_N G w len a (P a) (S a) e' ∧ e ≤ e'
  | 0, _, _, _, h => by omega
  | d + 1, e, ⟨e', x, y, z, f⟩, a, h => by
    have l := dr_S_le y
    rcases Nat.lt_or_ge a d with q | q
    · obtain ⟨e2, u, v⟩ := st_Tn d e' f a q
      exact ⟨e2, u, by omega⟩
    · have q : a = d := by omega
      subst q
      exact ⟨e', z, l⟩
section
variable {G : gm_G} {w : Nat → Nat} {len : Nat} {P X S : Nat → Nat} {d i : Nat}
theorem st_Tc (h : X d = gm_l G (P d)) (hT : st_T G w len P X S (d + 1) i) : tr_N G w len d (P d) (S d) i ∧ st_T G w len P X S d i := by
  obtain ⟨e', a, b, c, f⟩ := hT
  rw [h, Nat.sub_self] at b
  have b : i = e' := b
  subst b
  exact ⟨c, f⟩
theorem st_Tk (hG : gm_gd G) (hx : X d < gm_l G (P d)) (hs : 10 ≤ gm_s G (P d) (X d)) (hn : ¬ gm_F G (w i) (gm_s G (P d) (X d) - 10)) (hT : st_T G w len P X S (d + 1) i) : st_T G w len P (ud X d (X d + 1)) S (d + 1) i := by
  obtain ⟨e', a, b, c, f⟩ := hT
  rw [show gm_l G (P d) - X d = (gm_l G (P d) - (X d + 1)) + 1 from by omega] at b
  obtain ⟨k, x, y⟩ := b
  have e : k = i := by
    rcases x with ⟨x, _⟩ | ⟨_, x⟩
    · omega
    · have l := dr_D_le _ _ _ x
      rcases Nat.lt_or_ge i k with z | z
      · exact absurd (dr_F hG.1 x z).2 hn
      · omega
  subst e
  refine ⟨e', ?_, ?_, c, st_Tcg d e' (fun a ha => ⟨rfl, (ud_n (by omega)).symm, rfl⟩) f⟩
  · rw [ud_s]; exact dr_sn a x
  · rw [ud_s]; exact y
theorem st_Tt (hx : X d < gm_l G (P d)) (hs : gm_s G (P d) (X d) < 10) (hT : st_T G w len P X S (d + 1) i) : tr_f G w len d i (P d) (X d) ∧ st_T G w len P (ud X d (X d + 1)) S (d + 1) (i + 1) := by
  obtain ⟨e', a, b, c, f⟩ := hT
  rw [show gm_l G (P d) - X d = (gm_l G (P d) - (X d + 1)) + 1 from by omega] at b
  obtain ⟨k, x, y⟩ := b
  have e : k = i + 1 := by
    rcases x with ⟨_, _, x⟩ | ⟨x, _⟩
    · exact x
    · omega
  subst e
  refine ⟨⟨S d, e', c, ⟨hx, a, x, y⟩, hs⟩, e', ?_, ?_, c, st_Tcg d e' (fun a ha => ⟨rfl, (ud_n (by omega)).symm, rfl⟩) f⟩
  · rw [ud_s]; exact dr_sn a x
  · rw [ud_s]; exact y
theorem st_Te (hG : gm_gd G) (hw : w len = 10) (hx : X d < gm_l G (P d)) {p : Nat} (hp : p < gm_n G) (hr : gm_s G (P d) (X d) = 10 + gm_r G p) (hf : gm_fq G (w i) p 0) (hT : st_T G w len P X S (d + 1) i) : st_T G w len (ud P (d + 1) p) (ud (ud X d (X d + 1)) (d + 1) 0) (ud S (d + 1) i) (d + 2) i := by
  obtain ⟨e', a, b, c, f⟩ := hT
  rw [show gm_l G (P d) - X d = (gm_l G (P d) - (X d + 1)) + 1 from by omega] at b
  obtain ⟨k, x, y⟩ := b
  obtain ⟨v, _, W, _, _⟩ := tr_b hG hw d _ _ _ c
  have D : dr_D G w (gm_r G p) i k := by
    rcases x with ⟨x, _⟩ | ⟨_, x⟩
    · omega
    · rw [show gm_s G (P d) (X d) - 10 = gm_r G p from by omega] at x
      exact x
  have Wk := ll_F hG.1 v hx hr y W
  obtain ⟨q, hq, hrq, hS⟩ := dr_D_to D
  have P1 := ll_P hG.1 hS (by rw [hrq]; exact Wk)
  have e : p = q := ll_un hG hp hq hrq.symm P1.2 (Or.inl hf) P1.1
  subst e
  refine ⟨k, ?_, ?_, ?_, e', ?_, ?_, ?_, st_Tcg d e' (fun a ha => ⟨(ud_n (by omega)).symm, by rw [ud_n (by omega), ud_n (by omega)], (ud_n (by omega)).symm⟩) f⟩
  · rw [ud_s, ud_s, ud_s]; exact rfl
  · rw [ud_s, ud_s]; exact hS
  · rw [ud_s, ud_s]
    exact ⟨P d, S d, e', X d, c, ⟨hx, a, x, y⟩, hr, hp, hS⟩
  · rw [ud_n (f := P) (by omega), ud_n (f := ud X d (X d + 1)) (by omega), ud_n (f := S) (by omega), ud_s]; exact dr_sn a x
  · rw [ud_n (by omega), ud_n (by omega), ud_s]; exact y
  · rw [ud_n (by omega), ud_n (by omega)]; exact c
/-! marks -/
def mk_R (G : gm_G) (w : Nat → Nat) (len i : Nat) (ro : Nat → Int32) : Prop := ∀ x, x < 20 → (x < i → ∃ k p m, tr_f G w len k x p m ∧ ro x = nI (gm_o G p m)) ∧ (i ≤ x → ro x = 0)
def mk_S (G : gm_G) (w : Nat → Nat) (len i : Nat) (P S : Nat → Nat) (d : Nat) (sc : Nat → Int32) : Prop :=
  (∀ x, x < 20 → sc x = -1 ∨ ∃ a b, sc x = nI (32 * a + b) - 1 ∧ sc_in G w len x a b ∧ b ≤ i ∧ ∀ c, c < d → S c ≤ x → S c ≤ a) ∧
  (∀ x k p a b, x < i → tr_N G w len k p a b → gm_k G p = 1 → a ≤ x → x < b → (k < d ∧ P k = p ∧ S k = a) ∨ ∃ a' b', sc x = nI (32 * a' + b') - 1 ∧ sc_in G w len x a' b' ∧ a ≤ a' ∧ b' ≤ b)
def st_s (S : Nat → Nat) (d i : Nat) : Prop := (∀ a b, a ≤ b → b < d → S a ≤ S b) ∧ ∀ a, a < d → S a ≤ i
def mk_c (sc : Nat → Int32) (s i : Nat) : Nat → Int32 := fun x => if s ≤ x ∧ x < i ∧ sc x = -1 then nI (32 * s + i) - 1 else sc x
theorem mk_cd {a b : Nat} (hb : 1 ≤ b) (h : 32 * a + b < 2 ^ 31) : ¬ nI (32 * a + b) - 1 = -1 := by
  rw [ba_m1 (by omega)]
  intro z
  have := nI_pos' (n := 32 * a + b - 1) (by omega)
  rw [z] at this
  exact absurd this (by decide)
theorem mk_Su {sc : Nat → Int32} (hG : gm_gd G) (hw : w len = 10) (hn : len ≤ 20) (hu : ¬ gm_k G (P d) = 1) (hM : mk_S G w len i P S (d + 1) sc) : mk_S G w len i P S d sc := by
  refine ⟨fun x hx => ?_, fun x k p a b h1 h2 h3 h4 h5 => ?_⟩
  · rcases hM.1 x hx with h | ⟨a, b, q1, q2, q3, q4⟩
    · exact Or.inl h
    · exact Or.inr ⟨a, b, q1, q2, q3, fun c hc => q4 c (by omega)⟩
  · rcases hM.2 x k p a b h1 h2 h3 h4 h5 with ⟨q1, q2, q3⟩ | h
    · rcases Nat.lt_or_ge k d with z | z
      · exact Or.inl ⟨z, q2, q3⟩
      · have e : k = d := by omega
        subst e
        rw [q2] at hu
        exact absurd h3 hu
    · exact Or.inr h
theorem mk_Sm {sc : Nat → Int32} (hG : gm_gd G) (hw : w len = 10) (hn : len ≤ 20) (hm : gm_k G (P d) = 1) (hs : st_s S (d + 1) i) (hN : tr_N G w len d (P d) (S d) i) (hM : mk_S G w len i P S (d + 1) sc) : mk_S G w len i P S d (mk_c sc (S d) i) := by
  have hb := tr_b hG hw d _ _ _ hN
  refine ⟨fun x hx => ?_, fun x k p a b h1 h2 h3 h4 h5 => ?_⟩
  · unfold mk_c
    split
    · next h =>
      refine Or.inr ⟨S d, i, rfl, ⟨⟨by omega, d, P d, hN, hm⟩, h.1, h.2.1⟩, Nat.le_refl _, fun c hc _ => hs.1 c d (by omega) (by omega)⟩
    · rcases hM.1 x hx with h | ⟨a, b, q1, q2, q3, q4⟩
      · exact Or.inl h
      · exact Or.inr ⟨a, b, q1, q2, q3, fun c hc => q4 c (by omega)⟩
  · have keep : ∀ a' b', sc x = nI (32 * a' + b') - 1 → sc_in G w len x a' b' → mk_c sc (S d) i x = nI (32 * a' + b') - 1 := by
      intro a' b' z1 z2
      have l := sc_len hG hw z2.1
      unfold mk_c
      rw [if_neg (fun z => mk_cd (a := a') (b := b') (by omega) (by omega) (z1.symm.trans z.2.2))]
      exact z1
    rcases hM.2 x k p a b h1 h2 h3 h4 h5 with ⟨q1, q2, q3⟩ | ⟨a', b', q1, q2, q3, q4⟩
    · rcases Nat.lt_or_ge k d with z | z
      · exact Or.inl ⟨z, q2, q3⟩
      · have e : k = d := by omega
        subst e
        subst q2 q3
        obtain ⟨_, _, e3⟩ := tr_lu hG hw k _ _ _ _ _ _ x h2 hN h4 h5 h4 h1
        subst e3
        right
        rcases hM.1 x (by omega) with h | ⟨a, b', r1, r2, r3, r4⟩
        · refine ⟨S k, b, ?_, ⟨⟨by omega, k, P k, hN, hm⟩, h4, h5⟩, Nat.le_refl _, Nat.le_refl _⟩
          unfold mk_c
          rw [if_pos ⟨h4, h5, h⟩]
        · exact ⟨a, b', keep a b' r1 r2, r2, r4 k (by omega) h4, r3⟩
    · exact Or.inr ⟨a', b', keep a' b' q1 q2, q2, q3, q4⟩
theorem mk_Sk {sc : Nat → Int32} (hM : mk_S G w len i P S (d + 1) sc) {p : Nat} (hs : st_s S (d + 1) i) : mk_S G w len i (ud P (d + 1) p) (ud S (d + 1) i) (d + 2) sc := by
  refine ⟨fun x hx => ?_, fun x k p a b h1 h2 h3 h4 h5 => ?_⟩
  · rcases hM.1 x hx with h | ⟨a, b, q1, q2, q3, q4⟩
    · exact Or.inl h
    · refine Or.inr ⟨a, b, q1, q2, q3, fun c hc => ?_⟩
      rcases Nat.lt_or_ge c (d + 1) with z | z
      · rw [ud_n (by omega)]; exact q4 c z
      · have e : c = d + 1 := by omega
        subst e
        rw [ud_s]
        intro z
        have := q2.2.2
        omega
  · rcases hM.2 x k p a b h1 h2 h3 h4 h5 with ⟨q1, q2, q3⟩ | h
    · exact Or.inl ⟨by omega, by rw [ud_n (by omega)]; exact q2, by rw [ud_n (by omega)]; exact q3⟩
    · exact Or.inr h
theorem st_sk {p : Nat} (hs : st_s S (d + 1) i) : st_s (ud S (d + 1) i) (d + 2) i := by
  refine ⟨fun a b h1 h2 => ?_, fun a ha => ?_⟩
  · rcases Classical.em (b = d + 1) with e | e
    · subst e
      rw [ud_s]
      rcases Classical.em (a = d + 1) with e2 | e2
      · subst e2; rw [ud_s]; exact Nat.le_refl _
      · rw [ud_n e2]; exact hs.2 a (by omega)
    · rw [ud_n e, ud_n (by omega)]; exact hs.1 a b h1 (by omega)
  · rcases Classical.em (a = d + 1) with e2 | e2
    · subst e2; rw [ud_s]; exact Nat.le_refl _
    · rw [ud_n e2]; exact hs.2 a (by omega)
theorem mk_St {sc : Nat → Int32} (hG : gm_gd G) (hw : w len = 10) (hs : st_s S (d + 1) i) {p m : Nat} {X' : Nat → Nat} (hf : tr_f G w len d i p m) (hT : st_T G w len P X' S (d + 1) (i + 1)) (hM : mk_S G w len i P S (d + 1) sc) : mk_S G w len (i + 1) P S (d + 1) sc := by
  refine ⟨fun x hx => ?_, fun x k p a b h1 h2 h3 h4 h5 => ?_⟩
  · rcases hM.1 x hx with h | ⟨a, b, q1, q2, q3, q4⟩
    · exact Or.inl h
    · exact Or.inr ⟨a, b, q1, q2, by omega, q4⟩
  · rcases Nat.lt_or_ge x i with z | z
    · exact hM.2 x k p a b z h2 h3 h4 h5
    · have e : x = i := by omega
      subst e
      have hk := tr_fd hG hw hf h2 h4 h5
      obtain ⟨e', y1, y2⟩ := st_Tn (d + 1) (x + 1) hT k (by omega)
      obtain ⟨e1, e2, _⟩ := tr_lu hG hw k _ _ _ _ _ _ x h2 y1 h4 h5 (hs.2 k (by omega)) (by omega)
      exact Or.inl ⟨by omega, e1.symm, e2.symm⟩
theorem mk_Rt {ro : Nat → Int32} {v : Int32} {p m : Nat} (hf : tr_f G w len d i p m) (hv : v = nI (gm_o G p m)) (hM : mk_R G w len i ro) : mk_R G w len (i + 1) (fun x => if x = i then v else ro x) := by
  intro x hx
  refine ⟨fun h => ?_, fun h => ?_⟩
  · rcases Nat.lt_or_ge x i with z | z
    · obtain ⟨k, p, m, a, b⟩ := (hM x hx).1 z
      exact ⟨k, p, m, a, (if_neg (by omega)).trans b⟩
    · have e : x = i := by omega
      subst e
      exact ⟨d, p, m, hf, (if_pos rfl).trans hv⟩
  · exact (if_neg (by omega)).trans ((hM x hx).2 (by omega))
/-! at the end -/
theorem px_rt (hG : gm_gd G) (hw : w len = 10) (hd : dr_D G w 0 0 len) {k x p m : Nat} (h : tr_f G w len k x p m) : px_r G w len x = gm_o G p m := by
  refine cl_t ⟨hd, k, p, m, h, rfl⟩ (fun r' ⟨_, k', p', m', h', e⟩ => ?_)
  obtain ⟨_, e1, e2⟩ := tr_fu hG hw h h'
  subst e1 e2
  exact e
theorem px_rn (hG : gm_gd G) (hw : w len = 10) {x : Nat} (hx : len ≤ x) : px_r G w len x = 0 := by
  refine cl_f (fun r ⟨_, k, p, m, ⟨a, b, h1, h2, h3⟩, e⟩ => ?_)
  have := (tr_b hG hw k p a b h1).2.2.2.2
  have := (tr_Cle h2).2.2
  omega
theorem px_r0 {x : Nat} (hd : ¬ dr_D G w 0 0 len) : px_r G w len x = 0 := cl_f (fun r h => hd h.1)
theorem px_c0 {x : Nat} (hd : ¬ dr_D G w 0 0 len) : px_c G w len x = 0 := cl_f (fun r h => hd h.1)
theorem sc_mu {x a b a' b' : Nat} (h : sc_m G w len x a b) (h' : sc_m G w len x a' b') : a = a' ∧ b = b' := by
  have q := h.2 a' b' h'.1
  have q' := h'.2 a b h.1
  omega
theorem px_ct {x a b : Nat} (hd : dr_D G w 0 0 len) (h : sc_m G w len x a b) : px_c G w len x = 32 * a + b := by
  refine cl_t ⟨hd, a, b, h, rfl⟩ (fun r' ⟨_, a', b', h', e⟩ => ?_)
  obtain ⟨e1, e2⟩ := sc_mu h h'
  omega
theorem px_cn {x : Nat} (h : ∀ a b, ¬ sc_in G w len x a b) : px_c G w len x = 0 := cl_f (fun r ⟨_, a, b, z, _⟩ => h a b z.1)
theorem mk_end {sc : Nat → Int32} (hG : gm_gd G) (hw : w len = 10) (hn : len ≤ 20) (hd : dr_D G w 0 0 len) (hM : mk_S G w len len P S 0 sc) {x : Nat} (hx : x < 20) : sc x = nI (px_c G w len x) - 1 := by
  rcases hM.1 x hx with h | ⟨a, b, q1, q2, q3, q4⟩
  · rw [px_cn (fun a b z => ?_), h]
    · rfl
    · obtain ⟨⟨z1, k, p, z2, z3⟩, z4, z5⟩ := z
      have l := (tr_b hG hw k p a b z2).2.2.2.2
      rcases hM.2 x k p a b (by omega) z2 z3 z4 z5 with ⟨q, _⟩ | ⟨a', b', q1, q2, _, _⟩
      · omega
      · have l2 := sc_len hG hw q2.1
        exact mk_cd (a := a') (b := b') (by omega) (by omega) (q1.symm.trans h)
  · rw [px_ct hd (a := a) (b := b) ⟨q2, fun a' b' z => ?_⟩]
    · exact q1
    · obtain ⟨⟨z1, k, p, z2, z3⟩, z4, z5⟩ := z
      have l := (tr_b hG hw k p a' b' z2).2.2.2.2
      rcases hM.2 x k p a' b' (by omega) z2 z3 z4 z5 with ⟨q, _⟩ | ⟨c, e, r1, r2, r3, r4⟩
      · omega
      · have l1 := sc_len hG hw q2.1
        have l2 := sc_len hG hw r2.1
        have z := q1.symm.trans r1
        rw [ba_m1 (by omega), ba_m1 (by omega), nI_eq (by omega) (by omega)] at z
        omega
theorem mk_endR {ro : Nat → Int32} (hG : gm_gd G) (hw : w len = 10) (hd : dr_D G w 0 0 len) (hM : mk_R G w len len ro) {x : Nat} (hx : x < 20) : ro x = nI (px_r G w len x) := by
  rcases Nat.lt_or_ge x len with z | z
  · obtain ⟨k, p, m, a, b⟩ := (hM x hx).1 z
    rw [px_rt hG hw hd a]; exact b
  · rw [px_rn hG hw z, (hM x hx).2 z]; rfl
end
