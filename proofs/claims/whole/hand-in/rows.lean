section
/-! rows pasted from kit/rows (PURE-ROWS, BITS) and from the worked proof large-2 (b01, cn) -/
theorem pk_us {f : Nat → Int32} {k : Nat} {x : Int32} : upd f k x k = x := if_pos rfl
theorem pk_un {f : Nat → Int32} {k j : Nat} {x : Int32} (h : j ≠ k) : upd f k x j = f j := if_neg h
theorem pk_sub {a b : Nat} (h : b ≤ a) : nI a - nI b = nI (a - b) := by
  obtain ⟨c, rfl⟩ : ∃ c, a = c + b := ⟨a - b, by omega⟩
  rw [← nI_add, Int32.add_sub_cancel, Nat.add_sub_cancel]
theorem pk_m1 (n : Nat) : nI (n + 1) + (-1) = nI n := by
  rw [← nI_1, Int32.add_assoc, show (1 : Int32) + (-1) = 0 from rfl, Int32.add_zero]
theorem pk_mul (a b : Nat) : nI a * nI b = nI (a * b) := (Int32.ofNat_mul a b).symm
theorem pk_div {a d : Nat} (ha : a < 2 ^ 31) (h0 : 0 < d) (hd : d < 2 ^ 31) : nI a / nI d = nI (a / d) := by
  apply Int32.toInt_inj.mp
  rw [lg_idiv_nonneg (by rw [nI_toInt ha]; omega) (by rw [nI_toInt hd]; omega), nI_toInt ha, nI_toInt hd, nI_toInt (Nat.lt_of_le_of_lt (Nat.div_le_self a d) ha)]
  first | rfl | exact (Int.natCast_ediv _ _).symm
theorem pk_rem {a d : Nat} (ha : a < 2 ^ 31) (h0 : 0 < d) (hd : d < 2 ^ 31) : nI a - nI a / nI d * nI d = nI (a % d) := by
  rw [pk_div ha h0 hd, pk_mul, pk_sub (Nat.div_mul_le_self a d)]
  exact congrArg nI (by have := Nat.div_add_mod' a d; omega)
theorem pk_sub_toInt {a b : Nat} (ha : a < 2 ^ 30) (hb : b < 2 ^ 30) : (nI a - nI b).toInt = (a : Int) - b := by
  rw [Int32.toInt_sub, nI_toInt (by omega), nI_toInt (by omega)]
  exact Int.bmod_eq_of_le (by omega) (by omega)
theorem pk_sneg {a b : Nat} (hb : b < 2 ^ 30) (h : a < b) : nI a - nI b < 0 := by
  rw [Int32.lt_iff_toInt_lt, pk_sub_toInt (by omega) hb, show (0 : Int32).toInt = 0 from by decide]
  omega
theorem pk_ix (x : Int32) {n : Nat} (hn : n < 2 ^ 31) : x < 0 ∨ nI n ≤ x ∨ ∃ j : Nat, j < n ∧ x = nI j := by
  by_cases h : x < 0
  · exact Or.inl h
  · obtain ⟨j, hj, rfl⟩ := nI_of h
    by_cases h2 : j < n
    · exact Or.inr (Or.inr ⟨j, h2, rfl⟩)
    · exact Or.inr (Or.inl (nI_le (by omega) hj))
theorem pk_le {x y : Int32} {A B : Prop} (a b : Nat) (f : a ≤ b → A) (g : b < a → B) (hx : x = nI a := by rfl) (hy : y = nI b := by rfl) (ha : a < 2 ^ 31 := by omega) (hb : b < 2 ^ 31 := by omega) : (x ≤ y → A) ∧ (¬ x ≤ y → B) := by
  subst hx hy
  rw [nI_leI ha hb]
  exact ⟨f, fun z => g (by omega)⟩
theorem pk_lt {x y : Int32} {A B : Prop} (a b : Nat) (f : a < b → A) (g : b ≤ a → B) (hx : x = nI a := by rfl) (hy : y = nI b := by rfl) (ha : a < 2 ^ 31 := by omega) (hb : b < 2 ^ 31 := by omega) : (x < y → A) ∧ (¬ x < y → B) := by
  subst hx hy
  rw [nI_ltI ha hb]
  exact ⟨f, fun z => g (by omega)⟩
theorem pk_eq {x y : Int32} {A B : Prop} (a b : Nat) (f : a = b → A) (g : a ≠ b → B) (hx : x = nI a := by rfl) (hy : y = nI b := by rfl) (ha : a < 2 ^ 31 := by omega) (hb : b < 2 ^ 31 := by omega) : (x = y → A) ∧ (¬ x = y → B) := by
  subst hx hy
  rw [nI_eq ha hb]
  exact ⟨f, g⟩
theorem pk_in {x : Int32} (n N : Nat) (h : n < N) (hx : x = nI n := by rfl) (hN : N < 2 ^ 31 := by omega) : vp_in x N := by
  subst hx
  exact vp_in_nI h hN
theorem pk_cl {x : Int32} (n : Nat) (hx : x = nI n := by rfl) (h : n < 2 ^ 31 := by omega) : x.toNatClampNeg = n := by
  subst hx
  exact nI_clamp h
theorem pk_tn {n : Nat} (h : n < 2 ^ 32) : (nI n).toBitVec.toNat = n := Nat.mod_eq_of_lt h
theorem pk_and (x : Int32) {m : Int32} (k : Nat) (hm : m.toBitVec.toNat = 2 ^ k - 1) : x &&& m = nI (x.toBitVec.toNat % 2 ^ k) := by
  apply Int32.toBitVec_inj.mp
  apply BitVec.eq_of_toNat_eq
  rw [Int32.toBitVec_and, BitVec.toNat_and, hm, Nat.and_two_pow_sub_one_eq_mod]
  show _ = (BitVec.ofNat 32 _).toNat
  rw [BitVec.toNat_ofNat]
  exact (Nat.mod_eq_of_lt (Nat.lt_of_le_of_lt (Nat.mod_le _ _) x.toBitVec.isLt)).symm
theorem pk_andN {n : Nat} (h : n < 2 ^ 32) {m : Int32} (k : Nat) (hm : m.toBitVec.toNat = 2 ^ k - 1) : nI n &&& m = nI (n % 2 ^ k) := by
  rw [pk_and _ k hm, pk_tn h]
theorem pk_nb (z : Int32) : narrow .byte (.int z.toInt8.toInt32) = .int z.toInt8.toInt32 := congrArg Value.int (by simp)
theorem pk_ns (z : Int32) : narrow .short (.int z.toInt16.toInt32) = .int z.toInt16.toInt32 := congrArg Value.int (by simp)
theorem pk_fb (r : Int32) : fits .byte (.int r.toInt8.toInt32) = true := by
  have ⟨a, b⟩ := lg_i2b_range r
  have h1 : (-128 : Int32).toInt = -128 := by decide
  have h2 : (127 : Int32).toInt = 127 := by decide
  simp only [fits, Bool.and_eq_true, decide_eq_true_eq, Int32.le_iff_toInt_le, h1, h2]
  omega
theorem pk_fs (r : Int32) : fits .short (.int r.toInt16.toInt32) = true := by
  have ⟨a, b⟩ := lg_i2s_range r
  have h1 : (-32768 : Int32).toInt = -32768 := by decide
  have h2 : (32767 : Int32).toInt = 32767 := by decide
  simp only [fits, Bool.and_eq_true, decide_eq_true_eq, Int32.le_iff_toInt_le, h1, h2]
  omega
theorem pk_vb (z : Int32) : vp_nar .byte z.toInt8.toInt32 = z.toInt8.toInt32 := by rw [vp_nar_byte]; simp
theorem pk_vs (z : Int32) : vp_nar .short z.toInt16.toInt32 = z.toInt16.toInt32 := by rw [vp_nar_short]; simp
theorem pk_loop {σ : Type} (W : Nat → Nat → σ → Prop) (I : Nat → σ → Prop) (e i0 : Nat) (s : σ) (hi : i0 ≤ e) (h0 : I i0 s) (hx : ∀ n s, I e s → W (n + 1) e s)
    (hs : ∀ n i s, i < e → I i s → (∀ s', I (i + 1) s' → W n (i + 1) s') → W (n + 1) i s) : ∃ n, W n i0 s :=
  ⟨e + 1, loop_i W I e hx hs (e + 1) i0 s hi (by omega) h0⟩
theorem pk_loopD {σ : Type} (W : Nat → Nat → σ → Prop) (I : Nat → σ → Prop) (hx : ∀ n s, I 0 s → W (n + 1) 0 s)
    (hs : ∀ n i s, I (i + 1) s → (∀ s', I i s' → W n i s') → W (n + 1) (i + 1) s) : ∀ (e : Nat) (s : σ), I e s → W (e + 1) e s := by
  intro e
  induction e with
  | zero => exact fun s h => hx 0 s h
  | succ e ih => exact fun s h => hs (e + 1) e s h (fun s' h' => ih s' h')
theorem lp1 {A1 : Type} (W : Nat → A1 → Prop) (I : A1 → Prop) (μ : A1 → Nat) (hs : ∀ (n : Nat) (a1 : A1), I a1 → (∀ (b1 : A1), I b1 → μ b1 < μ a1 → W n b1) → W (n + 1) a1) (a1 : A1) (h : I a1) : ∃ n, W n a1 :=
  loop_m (σ := A1) (fun n s => W n s) (fun s => I s) (fun s => μ s) (fun n s hI hk => hs n s hI (fun b1 h9 hm => hk b1 h9 hm)) a1 h
theorem lp2 {A1 A2 : Type} (W : Nat → A1 → A2 → Prop) (I : A1 → A2 → Prop) (μ : A1 → A2 → Nat) (hs : ∀ (n : Nat) (a1 : A1) (a2 : A2), I a1 a2 → (∀ (b1 : A1) (b2 : A2), I b1 b2 → μ b1 b2 < μ a1 a2 → W n b1 b2) → W (n + 1) a1 a2) (a1 : A1) (a2 : A2) (h : I a1 a2) : ∃ n, W n a1 a2 :=
  loop_m (σ := A1 × A2) (fun n s => W n s.1 s.2) (fun s => I s.1 s.2) (fun s => μ s.1 s.2) (fun n s hI hk => hs n s.1 s.2 hI (fun b1 b2 h9 hm => hk (b1, b2) h9 hm)) (a1, a2) h
theorem lp3 {A1 A2 A3 : Type} (W : Nat → A1 → A2 → A3 → Prop) (I : A1 → A2 → A3 → Prop) (μ : A1 → A2 → A3 → Nat) (hs : ∀ (n : Nat) (a1 : A1) (a2 : A2) (a3 : A3), I a1 a2 a3 → (∀ (b1 : A1) (b2 : A2) (b3 : A3), I b1 b2 b3 → μ b1 b2 b3 < μ a1 a2 a3 → W n b1 b2 b3) → W (n + 1) a1 a2 a3) (a1 : A1) (a2 : A2) (a3 : A3) (h : I a1 a2 a3) : ∃ n, W n a1 a2 a3 :=
  loop_m (σ := A1 × A2 × A3) (fun n s => W n s.1 s.2.1 s.2.2) (fun s => I s.1 s.2.1 s.2.2) (fun s => μ s.1 s.2.1 s.2.2) (fun n s hI hk => hs n s.1 s.2.1 s.2.2 hI (fun b1 b2 b3 h9 hm => hk (b1, b2, b3) h9 hm)) (a1, a2, a3) h
theorem lp4 {A1 A2 A3 A4 : Type} (W : Nat → A1 → A2 → A3 → A4 → Prop) (I : A1 → A2 → A3 → A4 → Prop) (μ : A1 → A2 → A3 → A4 → Nat) (hs : ∀ (n : Nat) (a1 : A1) (a2 : A2) (a3 : A3) (a4 : A4), I a1 a2 a3 a4 → (∀ (b1 : A1) (b2 : A2) (b3 : A3) (b4 : A4), I b1 b2 b3 b4 → μ b1 b2 b3 b4 < μ a1 a2 a3 a4 → W n b1 b2 b3 b4) → W (n + 1) a1 a2 a3 a4) (a1 : A1) (a2 : A2) (a3 : A3) (a4 : A4) (h : I a1 a2 a3 a4) : ∃ n, W n a1 a2 a3 a4 :=
  loop_m (σ := A1 × A2 × A3 × A4) (fun n s => W n s.1 s.2.1 s.2.2.1 s.2.2.2) (fun s => I s.1 s.2.1 s.2.2.1 s.2.2.2) (fun s => μ s.1 s.2.1 s.2.2.1 s.2.2.2) (fun n s hI hk => hs n s.1 s.2.1 s.2.2.1 s.2.2.2 hI (fun b1 b2 b3 b4 h9 hm => hk (b1, b2, b3, b4) h9 hm)) (a1, a2, a3, a4) h
theorem lp5 {A1 A2 A3 A4 A5 : Type} (W : Nat → A1 → A2 → A3 → A4 → A5 → Prop) (I : A1 → A2 → A3 → A4 → A5 → Prop) (μ : A1 → A2 → A3 → A4 → A5 → Nat) (hs : ∀ (n : Nat) (a1 : A1) (a2 : A2) (a3 : A3) (a4 : A4) (a5 : A5), I a1 a2 a3 a4 a5 → (∀ (b1 : A1) (b2 : A2) (b3 : A3) (b4 : A4) (b5 : A5), I b1 b2 b3 b4 b5 → μ b1 b2 b3 b4 b5 < μ a1 a2 a3 a4 a5 → W n b1 b2 b3 b4 b5) → W (n + 1) a1 a2 a3 a4 a5) (a1 : A1) (a2 : A2) (a3 : A3) (a4 : A4) (a5 : A5) (h : I a1 a2 a3 a4 a5) : ∃ n, W n a1 a2 a3 a4 a5 :=
  loop_m (σ := A1 × A2 × A3 × A4 × A5) (fun n s => W n s.1 s.2.1 s.2.2.1 s.2.2.2.1 s.2.2.2.2) (fun s => I s.1 s.2.1 s.2.2.1 s.2.2.2.1 s.2.2.2.2) (fun s => μ s.1 s.2.1 s.2.2.1 s.2.2.2.1 s.2.2.2.2) (fun n s hI hk => hs n s.1 s.2.1 s.2.2.1 s.2.2.2.1 s.2.2.2.2 hI (fun b1 b2 b3 b4 b5 h9 hm => hk (b1, b2, b3, b4, b5) h9 hm)) (a1, a2, a3, a4, a5) h
theorem lp6 {A1 A2 A3 A4 A5 A6 : Type} (W : Nat → A1 → A2 → A3 → A4 → A5 → A6 → Prop) (I : A1 → A2 → A3 → A4 → A5 → A6 → Prop) (μ : A1 → A2 → A3 → A4 → A5 → A6 → Nat) (hs : ∀ (n : Nat) (a1 : A1) (a2 : A2) (a3 : A3) (a4 : A4) (a5 : A5) (a6 : A6), I a1 a2 a3 a4 a5 a6 → (∀ (b1 : A1) (b2 : A2) (b3 : A3) (b4 : A4) (b5 : A5) (b6 : A6), I b1 b2 b3 b4 b5 b6 → μ b1 b2 b3 b4 b5 b6 < μ a1 a2 a3 a4 a5 a6 → W n b1 b2 b3 b4 b5 b6) → W (n + 1) a1 a2 a3 a4 a5 a6) (a1 : A1) (a2 : A2) (a3 : A3) (a4 : A4) (a5 : A5) (a6 : A6) (h : I a1 a2 a3 a4 a5 a6) : ∃ n, W n a1 a2 a3 a4 a5 a6 :=
  loop_m (σ := A1 × A2 × A3 × A4 × A5 × A6) (fun n s => W n s.1 s.2.1 s.2.2.1 s.2.2.2.1 s.2.2.2.2.1 s.2.2.2.2.2) (fun s => I s.1 s.2.1 s.2.2.1 s.2.2.2.1 s.2.2.2.2.1 s.2.2.2.2.2) (fun s => μ s.1 s.2.1 s.2.2.1 s.2.2.2.1 s.2.2.2.2.1 s.2.2.2.2.2) (fun n s hI hk => hs n s.1 s.2.1 s.2.2.1 s.2.2.2.1 s.2.2.2.2.1 s.2.2.2.2.2 hI (fun b1 b2 b3 b4 b5 b6 h9 hm => hk (b1, b2, b3, b4, b5, b6) h9 hm)) (a1, a2, a3, a4, a5, a6) h
theorem pk_least (P : Nat → Prop) (h : ∃ k, P k) : ∃ k, P k ∧ ∀ j, j < k → ¬ P j := by
  obtain ⟨k, hk⟩ := h
  induction k using Nat.strongRecOn with
  | ind k ih =>
    by_cases e : ∃ j, j < k ∧ P j
    · obtain ⟨j, hj, pj⟩ := e
      exact ih j hj pj
    · exact ⟨k, hk, fun j hj pj => e ⟨j, hj, pj⟩⟩
def bt (x : Int32) (i : Nat) : Bool := x.toBitVec.getLsbD i
theorem b_ext {x y : Int32} (h : ∀ i, i < 32 → bt x i = bt y i) : x = y := Int32.toBitVec_inj.mp (BitVec.eq_of_getLsbD_eq (fun i hi => h i hi))
theorem b_or (x y : Int32) (i : Nat) : bt (x ||| y) i = (bt x i || bt y i) := by unfold bt; rw [Int32.toBitVec_or, BitVec.getLsbD_or]
theorem b_and (x y : Int32) (i : Nat) : bt (x &&& y) i = (bt x i && bt y i) := by unfold bt; rw [Int32.toBitVec_and, BitVec.getLsbD_and]
theorem b_xor (x y : Int32) (i : Nat) : bt (x ^^^ y) i = (bt x i ^^ bt y i) := by unfold bt; rw [Int32.toBitVec_xor, BitVec.getLsbD_xor]
theorem b_big {x : Int32} {i : Nat} (h : 32 ≤ i) : bt x i = false := BitVec.getLsbD_of_ge _ _ h
theorem b_255 (i : Nat) : bt 255 i = decide (i < 8) := by
  rcases Nat.lt_or_ge i 32 with h | h
  · exact (by decide +kernel : ∀ i, i < 32 → bt 255 i = decide (i < 8)) i h
  · rw [b_big h, decide_eq_false (by omega)]
theorem b_65535 (i : Nat) : bt 65535 i = decide (i < 16) := by
  rcases Nat.lt_or_ge i 32 with h | h
  · exact (by decide +kernel : ∀ i, i < 32 → bt 65535 i = decide (i < 16)) i h
  · rw [b_big h, decide_eq_false (by omega)]
theorem b_m1 : ∀ i, i < 32 → bt (-1) i = true := by decide +kernel
theorem b_0 (i : Nat) : bt 0 i = false := BitVec.getLsbD_zero
theorem s_l : ∀ n, n < 32 → ((nI n &&& 31).toBitVec.smod 32).toNat = n := by decide +kernel
theorem s_u : ∀ n, n < 32 → (((nI n).toUInt32 &&& Int32.toUInt32 31).toBitVec % 32).toNat = n := by decide +kernel
theorem b_shl (n : Nat) (hn : n < 32) (x : Int32) {i : Nat} (hi : i < 32) : bt (x <<< (nI n &&& 31)) i = (decide (n ≤ i) && bt x (i - n)) := by
  unfold bt
  rw [Int32.toBitVec_shiftLeft]
  show (x.toBitVec <<< ((nI n &&& 31).toBitVec.smod 32).toNat).getLsbD i = _
  rw [s_l n hn, BitVec.getLsbD_shiftLeft]
  rcases Nat.lt_or_ge i n with h | h
  · simp [h, Nat.not_le.mpr h]
  · simp [hi, h, Nat.not_lt.mpr h]
theorem b_ushr (n : Nat) (hn : n < 32) (x : Int32) (i : Nat) : bt ((x.toUInt32 >>> ((nI n).toUInt32 &&& Int32.toUInt32 31)).toInt32) i = bt x (n + i) := by
  show (x.toUInt32 >>> ((nI n).toUInt32 &&& Int32.toUInt32 31)).toBitVec.getLsbD i = x.toUInt32.toBitVec.getLsbD (n + i)
  rw [UInt32.toBitVec_shiftRight]
  show (x.toUInt32.toBitVec >>> (((nI n).toUInt32 &&& Int32.toUInt32 31).toBitVec % 32).toNat).getLsbD i = _
  rw [s_u n hn, BitVec.getLsbD_ushiftRight]
theorem b_sshr (n : Nat) (hn : n < 32) (x : Int32) {i : Nat} (hi : i < 32) : bt (x >>> (nI n &&& 31)) i = if n + i < 32 then bt x (n + i) else bt x 31 := by
  unfold bt
  rw [Int32.toBitVec_shiftRight]
  show (x.toBitVec.sshiftRight ((nI n &&& 31).toBitVec.smod 32).toNat).getLsbD i = _
  rw [s_l n hn, BitVec.getLsbD_sshiftRight, BitVec.msb_eq_getLsbD_last]
  simp [hi]
noncomputable def b01 (P : Prop) : Nat := @ite Nat P (Classical.propDecidable P) 1 0
theorem b01_t {P : Prop} (h : P) : b01 P = 1 := by unfold b01; rw [if_pos h]
theorem b01_f {P : Prop} (h : ¬ P) : b01 P = 0 := by unfold b01; rw [if_neg h]
theorem b01_le (P : Prop) : b01 P ≤ 1 := by
  rcases Classical.em P with h | h
  · rw [b01_t h]; omega
  · rw [b01_f h]; omega
theorem b01_mono {P Q : Prop} (h : P → Q) : b01 P ≤ b01 Q := by
  rcases Classical.em P with hp | hp
  · rw [b01_t hp, b01_t (h hp)]; omega
  · rw [b01_f hp]; omega
noncomputable def cn (P : Nat → Prop) : Nat → Nat
  | 0 => 0
  | k + 1 => cn P k + b01 (P k)
theorem cn_mono {P Q : Nat → Prop} : ∀ {N : Nat}, (∀ k, k < N → P k → Q k) → cn P N ≤ cn Q N
  | 0, _ => Nat.le_refl _
  | N + 1, h => by
    have a := cn_mono (P := P) (Q := Q) (N := N) (fun k hk => h k (by omega))
    have b := b01_mono (h N (by omega))
    simp only [cn]; omega
theorem cn_lt {P Q : Nat → Prop} {a : Nat} (hp : ¬ P a) (hq : Q a) : ∀ {N : Nat}, (∀ k, k < N → P k → Q k) → a < N → cn P N < cn Q N
  | 0, _, h => by omega
  | N + 1, h, ha => by
    simp only [cn]
    rcases Nat.lt_or_ge a N with z | z
    · have x := cn_lt hp hq (N := N) (fun k hk => h k (by omega)) z
      have b := b01_mono (h N (by omega))
      omega
    · have e : a = N := by omega
      subst e
      have x := cn_mono (P := P) (Q := Q) (N := a) (fun k hk => h k (by omega))
      rw [b01_t hq, b01_f hp]; omega
theorem cn_le (P : Nat → Prop) : ∀ N, cn P N ≤ N
  | 0 => Nat.le_refl _
  | N + 1 => by have := cn_le P N; have := b01_le (P N); simp only [cn]; omega
theorem cn_eq {P Q : Nat → Prop} {N : Nat} (h : ∀ k, k < N → (P k ↔ Q k)) : cn P N = cn Q N :=
  Nat.le_antisymm (cn_mono fun k hk => (h k hk).mp) (cn_mono fun k hk => (h k hk).mpr)
end
section
/-! the grammar, least sets by levels, derivations over spans of an infinite word -/
abbrev gm_G : Type := Nat × (Nat → Nat) × (Nat → Nat) × (Nat → Nat → Nat) × (Nat → Nat → Nat) × (Nat → Nat)
def gm_n (G : gm_G) : Nat := G.1
def gm_r (G : gm_G) (p : Nat) : Nat := G.2.1 p
def gm_l (G : gm_G) (p : Nat) : Nat := G.2.2.1 p
def gm_s (G : gm_G) (p m : Nat) : Nat := G.2.2.2.1 p m
def gm_o (G : gm_G) (p m : Nat) : Nat := G.2.2.2.2.1 p m
def gm_k (G : gm_G) (p : Nat) : Nat := G.2.2.2.2.2 p
def gm_v (G : gm_G) (p : Nat) : Prop := p < gm_n G ∨ p = 14
def gm_ok (G : gm_G) : Prop := gm_n G ≤ 14 ∧ (∀ p, p < gm_n G → gm_r G p < 6 ∧ gm_l G p ≤ 4 ∧ gm_k G p ≤ 1 ∧ ∀ m, m < gm_l G p → gm_s G p m < 16 ∧ (gm_s G p m < 10 → gm_o G p m < 4)) ∧ gm_r G 14 = 0 ∧ gm_l G 14 = 1 ∧ gm_s G 14 0 = 10 ∧ gm_k G 14 = 0
def fx_L (F : (Nat → Prop) → Nat → Prop) : Nat → Nat → Prop
  | 0 => fun _ => False
  | k + 1 => F (fx_L F k)
def fx_S (F : (Nat → Prop) → Nat → Prop) (a : Nat) : Prop := ∃ k, fx_L F k a
def fx_M (F : (Nat → Prop) → Nat → Prop) : Prop := ∀ P Q : Nat → Prop, (∀ a, P a → Q a) → ∀ a, F P a → F Q a
theorem fx_up {F : (Nat → Prop) → Nat → Prop} (h : fx_M F) : ∀ k a, fx_L F k a → fx_L F (k + 1) a
  | 0, _, z => z.elim
  | k + 1, a, z => h _ _ (fx_up h k) a z
theorem fx_le {F : (Nat → Prop) → Nat → Prop} (h : fx_M F) {k k' : Nat} (hk : k ≤ k') {a : Nat} (z : fx_L F k a) : fx_L F k' a := by
  induction hk with
  | refl => exact z
  | step _ ih => exact fx_up h _ _ ih
theorem fx_fz {F : (Nat → Prop) → Nat → Prop} (h : fx_M F) {j : Nat} (hj : ∀ a, fx_L F (j + 1) a → fx_L F j a) : ∀ k a, fx_L F (j + k) a → fx_L F j a
  | 0, _, z => z
  | k + 1, a, z => hj a (h _ _ (fx_fz h hj k) a z)
theorem fx_cnt {F : (Nat → Prop) → Nat → Prop} (h : fx_M F) (N : Nat) (hb : ∀ P a, F P a → a < N) (k : Nat) (hk : ∀ j, j < k → ¬ ∀ a, fx_L F (j + 1) a → fx_L F j a) : k ≤ cn (fx_L F k) N := by
  induction k with
  | zero => exact Nat.zero_le _
  | succ k ih =>
    have a := ih (fun j hj => hk j (by omega))
    have b := hk k (by omega)
    obtain ⟨x, hx⟩ := Classical.not_forall.mp b
    have hx1 : fx_L F (k + 1) x := Classical.byContradiction (fun z => hx (fun y => absurd y z))
    have hx2 : ¬ fx_L F k x := fun z => hx (fun _ => z)
    have c := cn_lt (N := N) hx2 hx1 (fun q _ => fx_up h k q) (hb _ _ hx1)
    omega
theorem fx_N {F : (Nat → Prop) → Nat → Prop} (h : fx_M F) (N : Nat) (hb : ∀ P a, F P a → a < N) {a : Nat} (z : fx_S F a) : fx_L F N a := by
  obtain ⟨k, z⟩ := z
  rcases Classical.em (∃ j, j ≤ N ∧ ∀ a, fx_L F (j + 1) a → fx_L F j a) with ⟨j, hj, hs⟩ | hn
  · rcases Nat.lt_or_ge k j with c | c
    · exact fx_le h (by omega) z
    · obtain ⟨d, rfl⟩ : ∃ d, k = j + d := ⟨k - j, by omega⟩
      exact fx_le h hj (fx_fz h hs d a z)
  · have c := fx_cnt h N hb (N + 1) (fun j hj q => hn ⟨j, by omega, q⟩)
    have d := cn_le (fx_L F (N + 1)) N
    omega
theorem fx_eq {F : (Nat → Prop) → Nat → Prop} (h : fx_M F) (N : Nat) (hb : ∀ P a, F P a → a < N) (a : Nat) : fx_S F a ↔ F (fx_S F) a :=
  ⟨fun z => h (fx_L F N) _ (fun b q => ⟨N, q⟩) a (fx_up h _ _ (fx_N h N hb z)), fun z => ⟨N + 1, h _ (fx_L F N) (fun b q => fx_N h N hb q) a z⟩⟩
def gm_pn (G : gm_G) (E : Nat → Prop) (p m m' : Nat) : Prop := ∀ k, m ≤ k → k < m' → 10 ≤ gm_s G p k ∧ E (gm_s G p k - 10)
def gm_fs (G : gm_G) (E P : Nat → Prop) (t p m : Nat) : Prop := ∃ m', m ≤ m' ∧ m' < gm_l G p ∧ gm_pn G E p m m' ∧ (gm_s G p m' = t ∨ 10 ≤ gm_s G p m' ∧ P (gm_s G p m' - 10))
theorem gm_pn_mo {G : gm_G} {E E' : Nat → Prop} (h : ∀ a, E a → E' a) {p m m' : Nat} (z : gm_pn G E p m m') : gm_pn G E' p m m' := fun k a b => ⟨(z k a b).1, h _ (z k a b).2⟩
theorem gm_fs_mo {G : gm_G} {E E' P P' : Nat → Prop} (h : ∀ a, E a → E' a) (h' : ∀ a, P a → P' a) {t p m : Nat} (z : gm_fs G E P t p m) : gm_fs G E' P' t p m := by
  obtain ⟨m', a, b, c, d⟩ := z
  exact ⟨m', a, b, gm_pn_mo h c, d.elim Or.inl (fun e => Or.inr ⟨e.1, h' _ e.2⟩)⟩
def gm_uF (G : gm_G) (P : Nat → Prop) (n : Nat) : Prop := n < 6 ∧ ∃ p, p < gm_n G ∧ gm_r G p = n ∧ gm_pn G P p 0 (gm_l G p)
def gm_U (G : gm_G) : Nat → Prop := fx_S (gm_uF G)
def gm_mF (G : gm_G) (P : Nat → Prop) (n : Nat) : Prop := n < 6 ∧ ∃ p, p < gm_n G ∧ gm_r G p = n ∧ ∀ m, m < gm_l G p → 10 ≤ gm_s G p m → P (gm_s G p m - 10)
def gm_M (G : gm_G) : Nat → Prop := fx_S (gm_mF G)
def gm_fF (G : gm_G) (t : Nat) (P : Nat → Prop) (n : Nat) : Prop := n < 6 ∧ t < 10 ∧ ∃ p, p < gm_n G ∧ gm_r G p = n ∧ gm_fs G (gm_U G) P t p 0
def gm_F (G : gm_G) (t : Nat) : Nat → Prop := fx_S (gm_fF G t)
def gm_fq (G : gm_G) (t p m : Nat) : Prop := t < 10 ∧ gm_fs G (gm_U G) (gm_F G t) t p m
def gm_uq (G : gm_G) (p m : Nat) : Prop := gm_pn G (gm_U G) p m (gm_l G p)
def gm_wF (G : gm_G) (t : Nat) (P : Nat → Prop) (n : Nat) : Prop := n < 6 ∧ t ≤ 10 ∧ (n = 0 ∧ t = 10 ∨ ∃ p m, p < gm_n G ∧ m < gm_l G p ∧ gm_s G p m = 10 + n ∧ (gm_fq G t p (m + 1) ∨ gm_uq G p (m + 1) ∧ P (gm_r G p)))
def gm_W (G : gm_G) (t : Nat) : Nat → Prop := fx_S (gm_wF G t)
def gm_P (G : gm_G) (t p : Nat) : Prop := gm_fq G t p 0 ∨ gm_uq G p 0 ∧ gm_W G t (gm_r G p)
def gm_us (G : gm_G) (n : Nat) : Prop := n = 0 ∨ ∃ p, p < gm_n G ∧ (gm_r G p = n ∨ ∃ m, m < gm_l G p ∧ gm_s G p m = 10 + n)
def gm_gd (G : gm_G) : Prop := gm_ok G ∧ (∀ n, n < 6 → gm_us G n → gm_M G n) ∧ ∀ q p t, q < gm_n G → p < q → gm_r G p = gm_r G q → t ≤ 10 → gm_P G t p → gm_P G t q → False
theorem gm_uM (G : gm_G) : fx_M (gm_uF G) := fun _ _ h _ ⟨a, p, b, c, d⟩ => ⟨a, p, b, c, gm_pn_mo h d⟩
theorem gm_mM (G : gm_G) : fx_M (gm_mF G) := fun _ _ h _ ⟨a, p, b, c, d⟩ => ⟨a, p, b, c, fun m x y => h _ (d m x y)⟩
theorem gm_fM (G : gm_G) (t : Nat) : fx_M (gm_fF G t) := fun _ _ h _ ⟨a, a', p, b, c, d⟩ => ⟨a, a', p, b, c, gm_fs_mo (fun _ x => x) h d⟩
theorem gm_wM (G : gm_G) (t : Nat) : fx_M (gm_wF G t) := fun _ _ h _ ⟨a, a', d⟩ => ⟨a, a', d.elim Or.inl (fun ⟨p, m, x, y, z, q⟩ => Or.inr ⟨p, m, x, y, z, q.elim Or.inl (fun r => Or.inr ⟨r.1, h _ r.2⟩)⟩)⟩
theorem gm_Ue {G : gm_G} {n : Nat} : gm_U G n ↔ gm_uF G (gm_U G) n := fx_eq (gm_uM G) 6 (fun _ _ h => h.1) n
theorem gm_Me {G : gm_G} {n : Nat} : gm_M G n ↔ gm_mF G (gm_M G) n := fx_eq (gm_mM G) 6 (fun _ _ h => h.1) n
theorem gm_Fe {G : gm_G} {t n : Nat} : gm_F G t n ↔ gm_fF G t (gm_F G t) n := fx_eq (gm_fM G t) 6 (fun _ _ h => h.1) n
theorem gm_We {G : gm_G} {t n : Nat} : gm_W G t n ↔ gm_wF G t (gm_W G t) n := fx_eq (gm_wM G t) 6 (fun _ _ h => h.1) n
theorem gm_U6 {G : gm_G} {n : Nat} (h : gm_U G n) : fx_L (gm_uF G) 6 n := fx_N (gm_uM G) 6 (fun _ _ h => h.1) h
theorem gm_M6 {G : gm_G} {n : Nat} (h : gm_M G n) : fx_L (gm_mF G) 6 n := fx_N (gm_mM G) 6 (fun _ _ h => h.1) h
theorem gm_F6 {G : gm_G} {t n : Nat} (h : gm_F G t n) : fx_L (gm_fF G t) 6 n := fx_N (gm_fM G t) 6 (fun _ _ h => h.1) h
theorem gm_W6 {G : gm_G} {t n : Nat} (h : gm_W G t n) : fx_L (gm_wF G t) 6 n := fx_N (gm_wM G t) 6 (fun _ _ h => h.1) h
/-! derivations -/
def dr_sy (R : Nat → Nat → Nat → Prop) (w : Nat → Nat) (s i j : Nat) : Prop := (s < 10 ∧ w i = s ∧ j = i + 1) ∨ (10 ≤ s ∧ R (s - 10) i j)
def dr_sg (G : gm_G) (R : Nat → Nat → Nat → Prop) (w : Nat → Nat) (p : Nat) : Nat → Nat → Nat → Nat → Prop
  | 0, _, i, j => i = j
  | c + 1, m, i, j => ∃ k, dr_sy R w (gm_s G p m) i k ∧ dr_sg G R w p c (m + 1) k j
def dr_L (G : gm_G) (w : Nat → Nat) : Nat → Nat → Nat → Nat → Prop
  | 0, _, _, _ => False
  | k + 1, n, i, j => ∃ p, p < gm_n G ∧ gm_r G p = n ∧ dr_sg G (dr_L G w k) w p (gm_l G p) 0 i j
def dr_D (G : gm_G) (w : Nat → Nat) (n i j : Nat) : Prop := ∃ k, dr_L G w k n i j
def dr_S (G : gm_G) (w : Nat → Nat) (p c m i j : Nat) : Prop := dr_sg G (dr_D G w) w p c m i j
theorem dr_sy_le {R : Nat → Nat → Nat → Prop} {w : Nat → Nat} {s i j : Nat} (hle : ∀ n i j, R n i j → i ≤ j) (h : dr_sy R w s i j) : i ≤ j := by
  rcases h with ⟨_, _, rfl⟩ | ⟨_, h⟩
  · omega
  · exact hle _ _ _ h
theorem dr_sg_le {G : gm_G} {R : Nat → Nat → Nat → Prop} {w : Nat → Nat} {p : Nat} (hle : ∀ n i j, R n i j → i ≤ j) : ∀ c m i j, dr_sg G R w p c m i j → i ≤ j
  | 0, _, _, _, h => Nat.le_of_eq h
  | c + 1, m, i, j, ⟨_, a, b⟩ => Nat.le_trans (dr_sy_le hle a) (dr_sg_le hle c (m + 1) _ j b)
theorem dr_sg_mo {G : gm_G} {R R' : Nat → Nat → Nat → Prop} {w w' : Nat → Nat} {p lo hi : Nat} (hle : ∀ n i j, R n i j → i ≤ j) (hR : ∀ n i j, lo ≤ i → j ≤ hi → R n i j → R' n i j) (hw : ∀ x, lo ≤ x → x < hi → w x = w' x) : ∀ c m i j, lo ≤ i → j ≤ hi → dr_sg G R w p c m i j → dr_sg G R' w' p c m i j := by
  intro c
  induction c with
  | zero => intro m i j _ _ h; exact h
  | succ c ih =>
    intro m i j h1 h2 h
    obtain ⟨k, a, b⟩ := h
    have l1 := dr_sy_le hle a
    have l2 := dr_sg_le hle _ _ _ _ b
    refine ⟨k, ?_, ih _ _ _ (by omega) h2 b⟩
    rcases a with ⟨x, y, z⟩ | ⟨x, y⟩
    · exact Or.inl ⟨x, by rw [← hw i h1 (by omega)]; exact y, z⟩
    · exact Or.inr ⟨x, hR _ _ _ h1 (by omega) y⟩
theorem dr_L_le {G : gm_G} {w : Nat → Nat} : ∀ k n i j, dr_L G w k n i j → i ≤ j
  | 0, _, _, _, h => h.elim
  | k + 1, _, i, j, ⟨_, _, _, h⟩ => dr_sg_le (dr_L_le k) _ _ i j h
theorem dr_D_le {G : gm_G} {w : Nat → Nat} : ∀ n i j, dr_D G w n i j → i ≤ j := fun _ _ _ ⟨k, h⟩ => dr_L_le k _ _ _ h
theorem dr_S_le {G : gm_G} {w : Nat → Nat} {p c m i j : Nat} (h : dr_S G w p c m i j) : i ≤ j := dr_sg_le dr_D_le _ _ _ _ h
theorem dr_L_up {G : gm_G} {w : Nat → Nat} : ∀ k n i j, dr_L G w k n i j → dr_L G w (k + 1) n i j
  | 0, _, _, _, h => h.elim
  | k + 1, _, i, j, ⟨p, a, b, h⟩ => ⟨p, a, b, dr_sg_mo (lo := 0) (hi := j) (dr_L_le k) (fun n i j _ _ => dr_L_up k n i j) (fun _ _ _ => rfl) _ _ i j (Nat.zero_le _) (Nat.le_refl _) h⟩
theorem dr_L_lv {G : gm_G} {w : Nat → Nat} {k k' n i j : Nat} (hk : k ≤ k') (h : dr_L G w k n i j) : dr_L G w k' n i j := by
  induction hk with
  | refl => exact h
  | step _ ih => exact dr_L_up _ _ _ _ ih
theorem dr_L_w {G : gm_G} {w w' : Nat → Nat} : ∀ k n i j, (∀ x, i ≤ x → x < j → w x = w' x) → dr_L G w k n i j → dr_L G w' k n i j
  | 0, _, _, _, _, h => h.elim
  | k + 1, _, i, j, hw, ⟨p, a, b, h⟩ => ⟨p, a, b, dr_sg_mo (lo := i) (hi := j) (dr_L_le k) (fun n i' j' l1 l2 => dr_L_w k n i' j' (fun x x1 x2 => hw x (by omega) (by omega))) hw _ _ i j (Nat.le_refl _) (Nat.le_refl _) h⟩
theorem dr_D_w {G : gm_G} {w w' : Nat → Nat} {n i j : Nat} (hw : ∀ x, i ≤ x → x < j → w x = w' x) : dr_D G w n i j → dr_D G w' n i j := fun ⟨k, h⟩ => ⟨k, dr_L_w k n i j hw h⟩
theorem dr_S_w {G : gm_G} {w w' : Nat → Nat} {p c m i j : Nat} (hw : ∀ x, i ≤ x → x < j → w x = w' x) (h : dr_S G w p c m i j) : dr_S G w' p c m i j :=
  dr_sg_mo (lo := i) (hi := j) dr_D_le (fun n i' j' l1 l2 => dr_D_w (fun x x1 x2 => hw x (by omega) (by omega))) hw _ _ i j (Nat.le_refl _) (Nat.le_refl _) h
theorem dr_sg_m1 {G : gm_G} {R R' : Nat → Nat → Nat → Prop} {w : Nat → Nat} {p c m i j : Nat} (hR : ∀ n i j, R n i j → R' n i j) (h : dr_sg G R w p c m i j) : dr_sg G R' w p c m i j := by
  induction c generalizing m i with
  | zero => exact h
  | succ c ih =>
    obtain ⟨k, a, b⟩ := h
    exact ⟨k, a.elim Or.inl (fun q => Or.inr ⟨q.1, hR _ _ _ q.2⟩), ih b⟩
theorem dr_S_lv {G : gm_G} {w : Nat → Nat} {p : Nat} : ∀ c m i j, dr_S G w p c m i j → ∃ k, dr_sg G (dr_L G w k) w p c m i j
  | 0, _, _, _, h => ⟨0, h⟩
  | c + 1, m, i, j, ⟨k, a, b⟩ => by
    obtain ⟨q, hq⟩ := dr_S_lv c (m + 1) k j b
    rcases a with a | ⟨a, q', hq'⟩
    · exact ⟨q, k, Or.inl a, hq⟩
    · exact ⟨q + q', k, Or.inr ⟨a, dr_L_lv (by omega) hq'⟩, dr_sg_m1 (fun _ _ _ => dr_L_lv (by omega)) hq⟩
theorem dr_D_of {G : gm_G} {w : Nat → Nat} {p i j : Nat} (hp : p < gm_n G) (h : dr_S G w p (gm_l G p) 0 i j) : dr_D G w (gm_r G p) i j := by
  obtain ⟨k, h⟩ := dr_S_lv _ _ _ _ h
  exact ⟨k + 1, p, hp, rfl, h⟩
theorem dr_D_to {G : gm_G} {w : Nat → Nat} {n i j : Nat} (h : dr_D G w n i j) : ∃ p, p < gm_n G ∧ gm_r G p = n ∧ dr_S G w p (gm_l G p) 0 i j := by
  obtain ⟨k, h⟩ := h
  cases k with
  | zero => exact h.elim
  | succ k =>
    obtain ⟨p, a, b, h⟩ := h
    exact ⟨p, a, b, dr_sg_m1 (fun _ _ _ z => ⟨k, z⟩) h⟩
theorem dr_app {G : gm_G} {R : Nat → Nat → Nat → Prop} {w : Nat → Nat} {p c2 k j : Nat} : ∀ c1 m i, dr_sg G R w p c1 m i k → dr_sg G R w p c2 (m + c1) k j → dr_sg G R w p (c1 + c2) m i j := by
  intro c1
  induction c1 with
  | zero => intro m i a b; cases a; rw [Nat.zero_add]; exact b
  | succ c1 ih =>
    intro m i a b
    obtain ⟨q, a, a'⟩ := a
    rw [show c1 + 1 + c2 = (c1 + c2) + 1 from by omega]
    exact ⟨q, a, ih _ _ a' (by rw [show m + 1 + c1 = m + (c1 + 1) from by omega]; exact b)⟩
theorem dr_spl {G : gm_G} {R : Nat → Nat → Nat → Prop} {w : Nat → Nat} {p c2 j : Nat} : ∀ c1 m i, dr_sg G R w p (c1 + c2) m i j → ∃ k, dr_sg G R w p c1 m i k ∧ dr_sg G R w p c2 (m + c1) k j := by
  intro c1
  induction c1 with
  | zero => intro m i h; rw [Nat.zero_add] at h; exact ⟨i, rfl, h⟩
  | succ c1 ih =>
    intro m i h
    rw [show c1 + 1 + c2 = (c1 + c2) + 1 from by omega] at h
    obtain ⟨q, a, b⟩ := h
    obtain ⟨k, x, y⟩ := ih _ _ b
    exact ⟨k, ⟨q, a, x⟩, by rw [show m + (c1 + 1) = m + 1 + c1 from by omega]; exact y⟩
theorem dr_1 {G : gm_G} {R : Nat → Nat → Nat → Prop} {w : Nat → Nat} {p m i j : Nat} (h : dr_sy R w (gm_s G p m) i j) : dr_sg G R w p 1 m i j := ⟨j, h, rfl⟩
theorem dr_sn {G : gm_G} {R : Nat → Nat → Nat → Prop} {w : Nat → Nat} {p m i k j : Nat} (a : dr_sg G R w p m 0 i k) (b : dr_sy R w (gm_s G p m) k j) : dr_sg G R w p (m + 1) 0 i j :=
  dr_app m 0 i a (by rw [Nat.zero_add]; exact dr_1 b)
theorem dr_ns {G : gm_G} {R : Nat → Nat → Nat → Prop} {w : Nat → Nat} {p m i j : Nat} (h : dr_sg G R w p (m + 1) 0 i j) : ∃ k, dr_sg G R w p m 0 i k ∧ dr_sy R w (gm_s G p m) k j := by
  obtain ⟨k, a, b⟩ := dr_spl m 0 i h
  rw [Nat.zero_add] at b
  obtain ⟨q, b, c⟩ := b
  cases c
  exact ⟨k, a, b⟩
/-! nullable -/
theorem dr_Us {G : gm_G} {E : Nat → Prop} {R : Nat → Nat → Nat → Prop} {w : Nat → Nat} {p : Nat} (hle : ∀ n i j, R n i j → i ≤ j) (hR : ∀ n i, R n i i → E n) : ∀ c m i, dr_sg G R w p c m i i → gm_pn G E p m (m + c)
  | 0, m, _, _, k, a, b => by omega
  | c + 1, m, i, ⟨q, a, b⟩, k, x, y => by
    have l1 := dr_sy_le hle a
    have l2 := dr_sg_le hle _ _ _ _ b
    have e : q = i := by omega
    subst e
    rcases Nat.lt_or_ge m k with z | z
    · exact dr_Us hle hR c (m + 1) q b k z (by omega)
    · have e : k = m := by omega
      subst e
      rcases a with ⟨_, _, a⟩ | ⟨a, a'⟩
      · omega
      · exact ⟨a, hR _ _ a'⟩
theorem dr_U0 {G : gm_G} (hG : gm_ok G) {w : Nat → Nat} : ∀ k n i, dr_L G w k n i i → fx_L (gm_uF G) k n
  | 0, _, _, h => h.elim
  | k + 1, n, i, ⟨p, a, b, h⟩ => ⟨by rw [← b]; exact (hG.2.1 p a).1, p, a, b, by
      have := dr_Us (dr_L_le k) (fun n i => dr_U0 hG k n i) _ _ _ h
      rw [Nat.zero_add] at this; exact this⟩
theorem dr_U {G : gm_G} (hG : gm_ok G) {w : Nat → Nat} {n i : Nat} (h : dr_D G w n i i) : gm_U G n := by
  obtain ⟨k, h⟩ := h
  exact ⟨k, dr_U0 hG k n i h⟩
theorem dr_uS {G : gm_G} {E : Nat → Prop} {R : Nat → Nat → Nat → Prop} {w : Nat → Nat} {p i : Nat} (hE : ∀ n, E n → R n i i) : ∀ c m, gm_pn G E p m (m + c) → dr_sg G R w p c m i i
  | 0, _, _ => rfl
  | c + 1, m, h => ⟨i, Or.inr ⟨(h m (by omega) (by omega)).1, hE _ (h m (by omega) (by omega)).2⟩, dr_uS hE c (m + 1) (fun k a b => h k (by omega) (by omega))⟩
theorem dr_u0 {G : gm_G} {w : Nat → Nat} {i : Nat} : ∀ k n, fx_L (gm_uF G) k n → dr_L G w k n i i
  | 0, _, h => h.elim
  | k + 1, n, ⟨_, p, a, b, h⟩ => ⟨p, a, b, dr_uS (dr_u0 k) _ 0 (by rw [Nat.zero_add]; exact h)⟩
theorem dr_u {G : gm_G} {w : Nat → Nat} {n : Nat} (i : Nat) (h : gm_U G n) : dr_D G w n i i := by
  obtain ⟨k, h⟩ := h
  exact ⟨k, dr_u0 k n h⟩
theorem dr_uq {G : gm_G} {w : Nat → Nat} {p c m : Nat} (i : Nat) (h : gm_pn G (gm_U G) p m (m + c)) : dr_S G w p c m i i := dr_uS (fun _ z => dr_u i z) c m h
theorem dr_qu {G : gm_G} (hG : gm_ok G) {w : Nat → Nat} {p c m i : Nat} (h : dr_S G w p c m i i) : gm_pn G (gm_U G) p m (m + c) := dr_Us dr_D_le (fun _ _ z => dr_U hG z) _ _ _ h
/-! FIRST -/
theorem dr_Fs {G : gm_G} (hG : gm_ok G) {w : Nat → Nat} {p : Nat} {R : Nat → Nat → Nat → Prop} (hle : ∀ n i j, R n i j → i ≤ j) (hD : ∀ n i j, R n i j → dr_D G w n i j) (hR : ∀ n i j, R n i j → i < j → w i < 10 ∧ gm_F G (w i) n) : ∀ c m i j, m + c = gm_l G p → dr_sg G R w p c m i j → i < j → gm_fq G (w i) p m
  | 0, _, _, _, _, h, l => by have : _ = _ := h; omega
  | c + 1, m, i, j, hm, ⟨k, a, b⟩, l => by
    rcases Nat.lt_or_ge i k with z | z
    · rcases a with ⟨x, y, _⟩ | ⟨x, y⟩
      · exact ⟨by omega, m, Nat.le_refl _, by omega, fun q q1 q2 => by omega, Or.inl y.symm⟩
      · have := hR _ _ _ y z
        exact ⟨this.1, m, Nat.le_refl _, by omega, fun q q1 q2 => by omega, Or.inr ⟨x, this.2⟩⟩
    · have l1 := dr_sy_le hle a
      have e : k = i := by omega
      subst e
      rcases a with ⟨_, _, a⟩ | ⟨x, y⟩
      · omega
      · obtain ⟨t, m', h1, h2, h3, h4⟩ := dr_Fs hG hle hD hR c (m + 1) k j (by omega) b l
        refine ⟨t, m', by omega, h2, fun q q1 q2 => ?_, h4⟩
        rcases Nat.lt_or_ge m q with u | u
        · exact h3 q u q2
        · have e : q = m := by omega
          subst e
          exact ⟨x, dr_U hG (hD _ _ _ y)⟩
theorem dr_F0 {G : gm_G} (hG : gm_ok G) {w : Nat → Nat} : ∀ k n i j, dr_L G w k n i j → i < j → w i < 10 ∧ gm_F G (w i) n
  | 0, _, _, _, h, _ => h.elim
  | k + 1, n, i, j, ⟨p, a, b, h⟩, l => by
    have := dr_Fs hG (dr_L_le k) (fun n i j z => ⟨k, z⟩) (dr_F0 hG k) _ 0 i j (by omega) h l
    exact ⟨this.1, gm_Fe.mpr ⟨by rw [← b]; exact (hG.2.1 p a).1, this.1, p, a, b, this.2⟩⟩
theorem dr_F {G : gm_G} (hG : gm_ok G) {w : Nat → Nat} {n i j : Nat} (h : dr_D G w n i j) (l : i < j) : w i < 10 ∧ gm_F G (w i) n := by
  obtain ⟨k, h⟩ := h
  exact dr_F0 hG k n i j h l
theorem dr_fq {G : gm_G} (hG : gm_ok G) {w : Nat → Nat} {p c m i j : Nat} (hm : m + c = gm_l G p) (h : dr_S G w p c m i j) (l : i < j) : gm_fq G (w i) p m :=
  dr_Fs hG dr_D_le (fun _ _ _ z => z) (fun _ _ _ z => dr_F hG z) c m i j hm h l
end
section
/-! words for productive rules and for FIRST -/
theorem dr_sy_w {G : gm_G} {w w' : Nat → Nat} {s i j : Nat} (hw : ∀ x, i ≤ x → x < j → w x = w' x) (h : dr_sy (dr_D G w) w s i j) : dr_sy (dr_D G w') w' s i j := by
  rcases h with ⟨a, b, c⟩ | ⟨a, b⟩
  · exact Or.inl ⟨a, by rw [← hw i (Nat.le_refl _) (by omega)]; exact b, c⟩
  · exact Or.inr ⟨a, dr_D_w hw b⟩
def dr_pr (G : gm_G) (n : Nat) : Prop := ∀ (w : Nat → Nat) (i : Nat), ∃ w' j, (∀ x, x < i → w' x = w x) ∧ i ≤ j ∧ dr_D G w' n i j
theorem dr_prs {G : gm_G} {p : Nat} : ∀ c m, (∀ q, m ≤ q → q < m + c → 10 ≤ gm_s G p q → dr_pr G (gm_s G p q - 10)) → ∀ (w : Nat → Nat) (i : Nat), ∃ w' j, (∀ x, x < i → w' x = w x) ∧ i ≤ j ∧ dr_S G w' p c m i j
  | 0, m, _, w, i => ⟨w, i, fun _ _ => rfl, Nat.le_refl _, rfl⟩
  | c + 1, m, h, w, i => by
    obtain ⟨w1, k, a1, l1, s1⟩ : ∃ w1 k, (∀ x, x < i → w1 x = w x) ∧ i ≤ k ∧ dr_sy (dr_D G w1) w1 (gm_s G p m) i k := by
      rcases Nat.lt_or_ge (gm_s G p m) 10 with z | z
      · exact ⟨fun x => if x = i then gm_s G p m else w x, i + 1, fun x hx => if_neg (by omega), by omega, Or.inl ⟨z, if_pos rfl, rfl⟩⟩
      · obtain ⟨w1, k, a, l, d⟩ := h m (Nat.le_refl _) (by omega) z w i
        exact ⟨w1, k, a, l, Or.inr ⟨z, d⟩⟩
    obtain ⟨w2, j, a2, l2, s2⟩ := dr_prs c (m + 1) (fun q q1 q2 => h q (by omega) (by omega)) w1 k
    exact ⟨w2, j, fun x hx => (a2 x (by omega)).trans (a1 x hx), by omega, k, dr_sy_w (fun x _ x2 => (a2 x x2).symm) s1, s2⟩
theorem dr_pr_of {G : gm_G} : ∀ k n, fx_L (gm_mF G) k n → dr_pr G n
  | 0, _, h => h.elim
  | k + 1, n, ⟨_, p, a, b, h⟩ => by
    intro w i
    obtain ⟨w', j, x, y, z⟩ := dr_prs (gm_l G p) 0 (fun q _ q2 q3 => dr_pr_of k _ (h q (by omega) q3)) w i
    exact ⟨w', j, x, y, b ▸ dr_D_of a z⟩
theorem dr_prg {G : gm_G} (hG : gm_gd G) {p : Nat} (hv : gm_v G p) {m : Nat} (hm : m < gm_l G p) (h : 10 ≤ gm_s G p m) : dr_pr G (gm_s G p m - 10) := by
  have hu : gm_s G p m - 10 < 6 ∧ gm_us G (gm_s G p m - 10) := by
    rcases hv with hv | rfl
    · have := ((hG.1.2.1 p hv).2.2.2 m hm).1
      exact ⟨by omega, Or.inr ⟨p, hv, Or.inr ⟨m, hm, by omega⟩⟩⟩
    · have a := hG.1.2.2.2.1
      have b := hG.1.2.2.2.2.1
      have e : m = 0 := by omega
      subst e
      rw [b]
      exact ⟨by omega, Or.inl rfl⟩
  obtain ⟨k, hk⟩ := hG.2.1 _ hu.1 hu.2
  exact dr_pr_of k _ hk
def dr_fr (G : gm_G) (t n : Nat) : Prop := ∀ (w : Nat → Nat) (i : Nat), ∃ w' j, (∀ x, x < i → w' x = w x) ∧ w' i = t ∧ i < j ∧ dr_D G w' n i j
theorem dr_frs {G : gm_G} (hG : gm_gd G) {p : Nat} (hv : gm_v G p) {t : Nat} (ht : t < 10) {P : Nat → Prop} (hP : ∀ n, P n → dr_fr G t n) {m : Nat} (h : gm_fs G (gm_U G) P t p m) (w : Nat → Nat) (i : Nat) : ∃ w' j, (∀ x, x < i → w' x = w x) ∧ w' i = t ∧ i < j ∧ dr_S G w' p (gm_l G p - m) m i j := by
  obtain ⟨m', h1, h2, h3, h4⟩ := h
  obtain ⟨w1, k, a1, b1, l1, s1⟩ : ∃ w1 k, (∀ x, x < i → w1 x = w x) ∧ w1 i = t ∧ i < k ∧ dr_sy (dr_D G w1) w1 (gm_s G p m') i k := by
    rcases h4 with z | ⟨z, z'⟩
    · exact ⟨fun x => if x = i then t else w x, i + 1, fun x hx => if_neg (by omega), if_pos rfl, by omega, Or.inl ⟨by omega, by rw [z]; exact if_pos rfl, rfl⟩⟩
    · obtain ⟨w1, k, a, b, l, d⟩ := hP _ z' w i
      exact ⟨w1, k, a, b, l, Or.inr ⟨z, d⟩⟩
  obtain ⟨w2, j, a2, l2, s2⟩ := dr_prs (G := G) (p := p) (gm_l G p - (m' + 1)) (m' + 1) (fun q q1 q2 q3 => dr_prg hG hv (by omega) q3) w1 k
  refine ⟨w2, j, fun x hx => (a2 x (by omega)).trans (a1 x hx), (a2 i l1).trans b1, by omega, ?_⟩
  have q1 : dr_S G w2 p (m' - m) m i i := dr_uq i (by rw [show m + (m' - m) = m' from by omega]; exact h3)
  have q2 : dr_S G w2 p (gm_l G p - (m' + 1) + 1) m' i j := ⟨k, dr_sy_w (fun x _ x2 => (a2 x x2).symm) s1, s2⟩
  rw [show gm_l G p - m = (m' - m) + (gm_l G p - (m' + 1) + 1) from by omega]
  exact dr_app (m' - m) m i q1 (by rw [show m + (m' - m) = m' from by omega]; exact q2)
theorem dr_fr_of {G : gm_G} (hG : gm_gd G) {t : Nat} : ∀ k n, fx_L (gm_fF G t) k n → dr_fr G t n
  | 0, _, h => h.elim
  | k + 1, n, ⟨_, ht, p, a, b, h⟩ => by
    intro w i
    obtain ⟨w', j, x, y, z, q⟩ := dr_frs hG (Or.inl a) ht (dr_fr_of hG k) h w i
    exact ⟨w', j, x, y, z, b ▸ dr_D_of a q⟩
theorem dr_Fw {G : gm_G} (hG : gm_gd G) {t n : Nat} (h : gm_F G t n) : dr_fr G t n := by
  obtain ⟨k, h⟩ := h
  exact dr_fr_of hG k n h
theorem dr_fqw {G : gm_G} (hG : gm_gd G) {p : Nat} (hv : gm_v G p) {t m : Nat} (h : gm_fq G t p m) (w : Nat → Nat) (i : Nat) : ∃ w' j, (∀ x, x < i → w' x = w x) ∧ w' i = t ∧ i < j ∧ dr_S G w' p (gm_l G p - m) m i j :=
  dr_frs hG hv h.1 (fun _ z => dr_Fw hG z) h.2 w i
theorem dr_prw {G : gm_G} (hG : gm_gd G) {p : Nat} (hv : gm_v G p) (m : Nat) (w : Nat → Nat) (i : Nat) : ∃ w' j, (∀ x, x < i → w' x = w x) ∧ i ≤ j ∧ dr_S G w' p (gm_l G p - m) m i j :=
  dr_prs _ m (fun q q1 q2 q3 => dr_prg hG hv (by omega) q3) w i
/-! the grammar is good: one parse -/
theorem gm_W10 {G : gm_G} {t n : Nat} (h : gm_W G t n) : t ≤ 10 := (gm_We.mp h).2.1
theorem gm_v6 {G : gm_G} (hG : gm_ok G) {p : Nat} (hv : gm_v G p) : gm_r G p < 6 := by
  rcases hv with hv | rfl
  · exact (hG.2.1 p hv).1
  · rw [hG.2.2.1]; omega
theorem gm_vs {G : gm_G} (hG : gm_ok G) {p : Nat} (hv : gm_v G p) : gm_l G p ≤ 4 ∧ ∀ m, m < gm_l G p → gm_s G p m < 16 := by
  rcases hv with hv | rfl
  · exact ⟨(hG.2.1 p hv).2.1, fun m hm => ((hG.2.1 p hv).2.2.2 m hm).1⟩
  · refine ⟨by rw [hG.2.2.2.1]; omega, fun m hm => ?_⟩
    rw [hG.2.2.2.1] at hm
    have e : m = 0 := by omega
    subst e
    rw [hG.2.2.2.2.1]; omega
theorem gm_v14 {G : gm_G} (hG : gm_ok G) {p : Nat} (hv : gm_v G p) : p < 15 := by
  rcases hv with hv | rfl
  · have := hG.1; omega
  · omega
theorem ll_P {G : gm_G} (hG : gm_ok G) {w : Nat → Nat} {p i j : Nat} (h : dr_S G w p (gm_l G p) 0 i j) (hf : gm_W G (w j) (gm_r G p)) : gm_P G (w i) p ∧ w i ≤ 10 := by
  have l := dr_S_le h
  rcases Nat.lt_or_ge i j with z | z
  · have := dr_fq hG (by omega) h z
    exact ⟨Or.inl this, by have := this.1; omega⟩
  · have e : i = j := by omega
    subst e
    have := dr_qu hG h
    rw [Nat.zero_add] at this
    exact ⟨Or.inr ⟨this, hf⟩, gm_W10 hf⟩
theorem ll_un {G : gm_G} (hG : gm_gd G) {p q t : Nat} (hp : p < gm_n G) (hq : q < gm_n G) (hr : gm_r G p = gm_r G q) (ht : t ≤ 10) (a : gm_P G t p) (b : gm_P G t q) : p = q := by
  rcases Nat.lt_trichotomy p q with h | h | h
  · exact (hG.2.2 q p t hq h hr ht a b).elim
  · exact h
  · exact (hG.2.2 p q t hp h hr.symm ht b a).elim
theorem ll_F {G : gm_G} (hG : gm_ok G) {w : Nat → Nat} {p m n k j : Nat} (hv : gm_v G p) (hm : m < gm_l G p) (hs : gm_s G p m = 10 + n) (h : dr_S G w p (gm_l G p - (m + 1)) (m + 1) k j) (hf : gm_W G (w j) (gm_r G p)) : gm_W G (w k) n := by
  have l := dr_S_le h
  have h16 := (gm_vs hG hv).2 m hm
  rcases hv with hv | rfl
  · rcases Nat.lt_or_ge k j with z | z
    · have q := dr_fq hG (by omega) h z
      exact gm_We.mpr ⟨by omega, by have := q.1; omega, Or.inr ⟨p, m, hv, hm, hs, Or.inl q⟩⟩
    · have e : k = j := by omega
      subst e
      have q := dr_qu hG h
      rw [show m + 1 + (gm_l G p - (m + 1)) = gm_l G p from by omega] at q
      exact gm_We.mpr ⟨by omega, gm_W10 hf, Or.inr ⟨p, m, hv, hm, hs, Or.inr ⟨q, hf⟩⟩⟩
  · have a := hG.2.2.2.1
    have b := hG.2.2.2.2.1
    have e : m = 0 := by omega
    subst e
    rw [a] at h
    have e : k = j := h
    subst e
    rw [b] at hs
    have e : n = 0 := by omega
    subst e
    rw [hG.2.2.1] at hf
    exact hf
theorem ll_Ks {G : gm_G} (hG : gm_gd G) {w : Nat → Nat} {p : Nat} (hv : gm_v G p) {R : Nat → Nat → Nat → Prop} (hD : ∀ n i j, R n i j → dr_D G w n i j) (IH : ∀ n i j j', R n i j → dr_D G w n i j' → gm_W G (w j) n → gm_W G (w j') n → j = j') : ∀ c m i j j', m + c = gm_l G p → dr_sg G R w p c m i j → dr_S G w p c m i j' → gm_W G (w j) (gm_r G p) → gm_W G (w j') (gm_r G p) → j = j'
  | 0, _, _, _, _, _, a, b, _, _ => by have a : _ = _ := a; have b : _ = _ := b; omega
  | c + 1, m, i, j, j', hm, ⟨k, a, b⟩, ⟨k', a', b'⟩, f, f' => by
    have e : k = k' := by
      rcases a with ⟨x, y, z⟩ | ⟨x, y⟩
      · rcases a' with ⟨_, _, z'⟩ | ⟨x', _⟩
        · omega
        · omega
      · rcases a' with ⟨x', _, _⟩ | ⟨_, y'⟩
        · omega
        · have hs : gm_s G p m = 10 + (gm_s G p m - 10) := by omega
          have e : gm_l G p - (m + 1) = c := by omega
          exact IH _ _ _ _ y y' (ll_F hG.1 hv (by omega) hs (by rw [e]; exact dr_sg_m1 hD b) f) (ll_F hG.1 hv (by omega) hs (by rw [e]; exact b') f')
    subst e
    exact ll_Ks hG hv hD IH c (m + 1) k j j' (by omega) b b' f f'
theorem ll_K0 {G : gm_G} (hG : gm_gd G) {w : Nat → Nat} : ∀ a n i j j', dr_L G w a n i j → dr_D G w n i j' → gm_W G (w j) n → gm_W G (w j') n → j = j'
  | 0, _, _, _, _, h, _, _, _ => h.elim
  | a + 1, n, i, j, j', ⟨p, hp, hr, h⟩, h', f, f' => by
    obtain ⟨q, hq, hr', h'⟩ := dr_D_to h'
    have hS : dr_S G w p (gm_l G p) 0 i j := dr_sg_m1 (fun _ _ _ z => ⟨a, z⟩) h
    have P1 := ll_P hG.1 hS (by rw [hr]; exact f)
    have P2 := ll_P hG.1 h' (by rw [hr']; exact f')
    have e : p = q := ll_un hG hp hq (hr.trans hr'.symm) P1.2 P1.1 P2.1
    subst e
    exact ll_Ks hG (Or.inl hp) (fun _ _ _ z => ⟨a, z⟩) (ll_K0 hG a) _ 0 i j j' (by omega) h h' (by rw [hr]; exact f) (by rw [hr]; exact f')
theorem ll_K {G : gm_G} (hG : gm_gd G) {w : Nat → Nat} {n i j j' : Nat} (h : dr_D G w n i j) (h' : dr_D G w n i j') (f : gm_W G (w j) n) (f' : gm_W G (w j') n) : j = j' := by
  obtain ⟨a, h⟩ := h
  exact ll_K0 hG a n i j j' h h' f f'
theorem ll_sy {G : gm_G} (hG : gm_gd G) {w : Nat → Nat} {p : Nat} (hv : gm_v G p) {m i k k' j : Nat} (hm : m < gm_l G p) (a : dr_sy (dr_D G w) w (gm_s G p m) i k) (b : dr_S G w p (gm_l G p - (m + 1)) (m + 1) k j) (a' : dr_sy (dr_D G w) w (gm_s G p m) i k') (b' : dr_S G w p (gm_l G p - (m + 1)) (m + 1) k' j) (f : gm_W G (w j) (gm_r G p)) : k = k' := by
  rcases a with ⟨x, y, z⟩ | ⟨x, y⟩
  · rcases a' with ⟨_, _, z'⟩ | ⟨x', _⟩
    · omega
    · omega
  · rcases a' with ⟨x', _, _⟩ | ⟨_, y'⟩
    · omega
    · have hs : gm_s G p m = 10 + (gm_s G p m - 10) := by omega
      exact ll_K hG y y' (ll_F hG.1 hv hm hs b f) (ll_F hG.1 hv hm hs b' f)
theorem ll_sp {G : gm_G} (hG : gm_gd G) {w : Nat → Nat} {p : Nat} (hv : gm_v G p) {i j : Nat} (f : gm_W G (w j) (gm_r G p)) : ∀ m k k', m ≤ gm_l G p → dr_S G w p m 0 i k → dr_S G w p (gm_l G p - m) m k j → dr_S G w p m 0 i k' → dr_S G w p (gm_l G p - m) m k' j → k = k'
  | 0, _, _, _, a, _, a', _ => by have a : _ = _ := a; have a' : _ = _ := a'; omega
  | m + 1, k, k', hm, a, b, a', b' => by
    obtain ⟨q, c, d⟩ := dr_ns a
    obtain ⟨q', c', d'⟩ := dr_ns a'
    have e : gm_l G p - m = (gm_l G p - (m + 1)) + 1 := by omega
    have e : q = q' := ll_sp hG hv f m q q' (by omega) c (by rw [e]; exact ⟨k, d, b⟩) c' (by rw [e]; exact ⟨k', d', b'⟩)
    subst e
    exact ll_sy hG hv (by omega) d b d' b' f
theorem ll_mo {G : gm_G} (hG : gm_gd G) {w : Nat → Nat} {p : Nat} (hv : gm_v G p) {i j : Nat} (f : gm_W G (w j) (gm_r G p)) {m m' k k' : Nat} (hm : m ≤ m') (hm' : m' ≤ gm_l G p) (a : dr_S G w p m 0 i k) (b : dr_S G w p (gm_l G p - m) m k j) (a' : dr_S G w p m' 0 i k') (b' : dr_S G w p (gm_l G p - m') m' k' j) : k ≤ k' := by
  rw [show m' = m + (m' - m) from by omega] at a'
  obtain ⟨q, c, d⟩ := dr_spl m 0 i a'
  rw [Nat.zero_add] at d
  have l := dr_S_le d
  have e : k = q := ll_sp hG hv f m k q (by omega) a b c (by
    rw [show gm_l G p - m = (m' - m) + (gm_l G p - m') from by omega]
    exact dr_app (m' - m) m q d (by rw [show m + (m' - m) = m' from by omega]; exact b'))
  omega
/-! symbol m of a node (p, I, J) over [i, j) -/
def tr_C (G : gm_G) (w : Nat → Nat) (p I J m i j : Nat) : Prop := m < gm_l G p ∧ dr_S G w p m 0 I i ∧ dr_sy (dr_D G w) w (gm_s G p m) i j ∧ dr_S G w p (gm_l G p - (m + 1)) (m + 1) j J
theorem tr_C0 {G : gm_G} {w : Nat → Nat} {p I J m i j : Nat} (h : tr_C G w p I J m i j) : dr_S G w p (gm_l G p - m) m i J := by
  have := h.1
  rw [show gm_l G p - m = (gm_l G p - (m + 1)) + 1 from by omega]
  exact ⟨j, h.2.2.1, h.2.2.2⟩
theorem tr_Cle {G : gm_G} {w : Nat → Nat} {p I J m i j : Nat} (h : tr_C G w p I J m i j) : I ≤ i ∧ i ≤ j ∧ j ≤ J := ⟨dr_S_le h.2.1, dr_sy_le dr_D_le h.2.2.1, dr_S_le h.2.2.2⟩
theorem tr_Cm {G : gm_G} (hG : gm_gd G) {w : Nat → Nat} {p I J : Nat} (hv : gm_v G p) (f : gm_W G (w J) (gm_r G p)) {m i j m' i' j' : Nat} (h : tr_C G w p I J m i j) (h' : tr_C G w p I J m' i' j') (l : m < m') : j ≤ i' :=
  ll_mo hG hv f (Nat.succ_le_of_lt l) (Nat.le_of_lt h'.1) (dr_sn h.2.1 h.2.2.1) h.2.2.2 h'.2.1 (tr_C0 h')
theorem tr_Cs {G : gm_G} (hG : gm_gd G) {w : Nat → Nat} {p I J : Nat} (hv : gm_v G p) (f : gm_W G (w J) (gm_r G p)) {m i j i' j' : Nat} (h : tr_C G w p I J m i j) (h' : tr_C G w p I J m i' j') : i = i' ∧ j = j' := by
  have e : i = i' := ll_sp hG hv f m i i' (Nat.le_of_lt h.1) h.2.1 (tr_C0 h) h'.2.1 (tr_C0 h')
  subst e
  exact ⟨rfl, ll_sy hG hv h.1 h.2.2.1 h.2.2.2 h'.2.2.1 h'.2.2.2 f⟩
theorem tr_Cu {G : gm_G} (hG : gm_gd G) {w : Nat → Nat} {p I J : Nat} (hv : gm_v G p) (f : gm_W G (w J) (gm_r G p)) {m i j m' i' j' x : Nat} (h : tr_C G w p I J m i j) (h' : tr_C G w p I J m' i' j') (h1 : i ≤ x) (h2 : x < j) (h3 : i' ≤ x) (h4 : x < j') : m = m' ∧ i = i' ∧ j = j' := by
  rcases Nat.lt_trichotomy m m' with l | l | l
  · have := tr_Cm hG hv f h h' l; omega
  · subst l
    exact ⟨rfl, tr_Cs hG hv f h h'⟩
  · have := tr_Cm hG hv f h' h l; omega
/-! the derivation tree of a sentence: the nodes of each level -/
def tr_N (G : gm_G) (w : Nat → Nat) (len : Nat) : Nat → Nat → Nat → Nat → Prop
  | 0, p, i, j => p = 14 ∧ i = 0 ∧ j = len ∧ dr_S G w 14 1 0 0 len
  | k + 1, p, i, j => ∃ P I J m, tr_N G w len k P I J ∧ tr_C G w P I J m i j ∧ gm_s G P m = 10 + gm_r G p ∧ p < gm_n G ∧ dr_S G w p (gm_l G p) 0 i j
theorem tr_b {G : gm_G} (hG : gm_gd G) {w : Nat → Nat} {len : Nat} (hw : w len = 10) : ∀ k p i j, tr_N G w len k p i j → gm_v G p ∧ dr_S G w p (gm_l G p) 0 i j ∧ gm_W G (w j) (gm_r G p) ∧ i ≤ j ∧ j ≤ len
  | 0, p, i, j, ⟨a, b, c, d⟩ => by
    subst a b c
    refine ⟨Or.inr rfl, by rw [hG.1.2.2.2.1]; exact d, ?_, by omega, Nat.le_refl _⟩
    rw [hw, hG.1.2.2.1]
    exact gm_We.mpr ⟨by omega, by omega, Or.inl ⟨rfl, rfl⟩⟩
  | k + 1, p, i, j, ⟨P, I, J, m, a, b, c, d, e⟩ => by
    obtain ⟨a1, a2, a3, a4, a5⟩ := tr_b hG hw k P I J a
    have l := tr_Cle b
    exact ⟨Or.inl d, e, ll_F hG.1 a1 b.1 c b.2.2.2 a3, by omega, by omega⟩
theorem tr_lu {G : gm_G} (hG : gm_gd G) {w : Nat → Nat} {len : Nat} (hw : w len = 10) : ∀ k p i j p' i' j' x, tr_N G w len k p i j → tr_N G w len k p' i' j' → i ≤ x → x < j → i' ≤ x → x < j' → p = p' ∧ i = i' ∧ j = j'
  | 0, _, _, _, _, _, _, _, ⟨a, b, c, _⟩, ⟨a', b', c', _⟩, _, _, _, _ => by omega
  | k + 1, p, i, j, p', i', j', x, ⟨P, I, J, m, a, b, c, d, e⟩, ⟨P', I', J', m', a', b', c', d', e'⟩, h1, h2, h3, h4 => by
    have l := tr_Cle b
    have l' := tr_Cle b'
    obtain ⟨q1, q2, q3⟩ := tr_lu hG hw k P I J P' I' J' x a a' (by omega) (by omega) (by omega) (by omega)
    subst q1 q2 q3
    obtain ⟨v, _, f, _, _⟩ := tr_b hG hw k _ _ _ a
    obtain ⟨q1, q2, q3⟩ := tr_Cu hG v f b b' h1 h2 h3 h4
    subst q1 q2 q3
    have hr : gm_r G p = gm_r G p' := by omega
    have f2 := ll_F hG.1 v b.1 c b.2.2.2 f
    have P1 := ll_P hG.1 e f2
    have P2 := ll_P hG.1 e' (by rw [← hr]; exact f2)
    exact ⟨ll_un hG d d' hr P1.2 P1.1 P2.1, rfl, rfl⟩
theorem tr_anc {G : gm_G} {w : Nat → Nat} {len k : Nat} : ∀ d p i j, tr_N G w len (k + d + 1) p i j → ∃ P I J m a b, tr_N G w len k P I J ∧ tr_C G w P I J m a b ∧ 10 ≤ gm_s G P m ∧ a ≤ i ∧ j ≤ b
  | 0, p, i, j, ⟨P, I, J, m, a, b, c, d, e⟩ => ⟨P, I, J, m, i, j, a, b, by omega, Nat.le_refl _, Nat.le_refl _⟩
  | d + 1, p, i, j, ⟨P, I, J, m, a, b, c, e, f⟩ => by
    obtain ⟨P', I', J', m', a', b', q1, q2, q3, q4, q5⟩ := tr_anc d P I J a
    have l := tr_Cle b
    exact ⟨P', I', J', m', a', b', q1, q2, q3, by omega, by omega⟩
/-- a node of level k over x, a node of a deeper level over x: the second lies in a rule symbol of the first -/
theorem tr_dp {G : gm_G} (hG : gm_gd G) {w : Nat → Nat} {len : Nat} (hw : w len = 10) {k k' p i j p' i' j' x : Nat} (hk : k < k') (h : tr_N G w len k p i j) (h' : tr_N G w len k' p' i' j') (h1 : i ≤ x) (h2 : x < j) (h3 : i' ≤ x) (h4 : x < j') : ∃ m a b, tr_C G w p i j m a b ∧ 10 ≤ gm_s G p m ∧ a ≤ i' ∧ j' ≤ b := by
  obtain ⟨d, rfl⟩ : ∃ d, k' = k + d + 1 := ⟨k' - k - 1, by omega⟩
  obtain ⟨P, I, J, m, a, b, q1, q2, q3, q4, q5⟩ := tr_anc d p' i' j' h'
  have l := tr_Cle q2
  obtain ⟨e1, e2, e3⟩ := tr_lu hG hw k p i j P I J x h q1 h1 h2 (by omega) (by omega)
  subst e1 e2 e3
  exact ⟨m, a, b, q2, q3, q4, q5⟩
theorem tr_nest {G : gm_G} (hG : gm_gd G) {w : Nat → Nat} {len : Nat} (hw : w len = 10) {k k' p i j p' i' j' x : Nat} (hk : k ≤ k') (h : tr_N G w len k p i j) (h' : tr_N G w len k' p' i' j') (h1 : i ≤ x) (h2 : x < j) (h3 : i' ≤ x) (h4 : x < j') : i ≤ i' ∧ j' ≤ j := by
  rcases Nat.lt_or_ge k k' with l | l
  · obtain ⟨m, a, b, q, _, q1, q2⟩ := tr_dp hG hw l h h' h1 h2 h3 h4
    have := tr_Cle q
    omega
  · have e : k = k' := by omega
    subst e
    obtain ⟨_, e2, e3⟩ := tr_lu hG hw k p i j p' i' j' x h h' h1 h2 h3 h4
    omega
/-- the leaf over x: terminal m of a node of level k -/
def tr_f (G : gm_G) (w : Nat → Nat) (len k x p m : Nat) : Prop := ∃ i j, tr_N G w len k p i j ∧ tr_C G w p i j m x (x + 1) ∧ gm_s G p m < 10
theorem tr_fd {G : gm_G} (hG : gm_gd G) {w : Nat → Nat} {len : Nat} (hw : w len = 10) {k k' x p m p' i' j' : Nat} (h : tr_f G w len k x p m) (h' : tr_N G w len k' p' i' j') (h3 : i' ≤ x) (h4 : x < j') : k' ≤ k := by
  obtain ⟨i, j, a, b, c⟩ := h
  rcases Nat.lt_or_ge k k' with l | l
  · have z := tr_Cle b
    obtain ⟨m', a', b', q, q1, q2, q3⟩ := tr_dp hG hw (x := x) l a h' (by omega) (by omega) h3 h4
    obtain ⟨v, _, f, _, _⟩ := tr_b hG hw k _ _ _ a
    obtain ⟨e, _, _⟩ := tr_Cu hG v f (x := x) b q (by omega) (by omega) (by omega) (by omega)
    subst e
    omega
  · exact l
theorem tr_fu {G : gm_G} (hG : gm_gd G) {w : Nat → Nat} {len : Nat} (hw : w len = 10) {k k' x p m p' m' : Nat} (h : tr_f G w len k x p m) (h' : tr_f G w len k' x p' m') : k = k' ∧ p = p' ∧ m = m' := by
  have h0 := h
  have h0' := h'
  obtain ⟨i, j, a, b, c⟩ := h
  obtain ⟨i', j', a', b', c'⟩ := h'
  have z := tr_Cle b
  have z' := tr_Cle b'
  have k1 := tr_fd hG hw h0 a' (by omega) (by omega)
  have k2 := tr_fd hG hw h0' a (by omega) (by omega)
  have e : k = k' := by omega
  subst e
  obtain ⟨e1, e2, e3⟩ := tr_lu hG hw k p i j p' i' j' x a a' (by omega) (by omega) (by omega) (by omega)
  subst e1 e2 e3
  obtain ⟨v, _, f, _, _⟩ := tr_b hG hw k _ _ _ a
  exact ⟨rfl, rfl, (tr_Cu hG v f (x := x) b b' (by omega) (by omega) (by omega) (by omega)).1⟩
/-! scopes -/
def sc_S (G : gm_G) (w : Nat → Nat) (len i j : Nat) : Prop := i < j ∧ ∃ k p, tr_N G w len k p i j ∧ gm_k G p = 1
def sc_in (G : gm_G) (w : Nat → Nat) (len x i j : Nat) : Prop := sc_S G w len i j ∧ i ≤ x ∧ x < j
theorem sc_nest {G : gm_G} (hG : gm_gd G) {w : Nat → Nat} {len : Nat} (hw : w len = 10) {x i j i' j' : Nat} (h : sc_in G w len x i j) (h' : sc_in G w len x i' j') : (i ≤ i' ∧ j' ≤ j) ∨ (i' ≤ i ∧ j ≤ j') := by
  obtain ⟨⟨_, k, p, a, _⟩, b, c⟩ := h
  obtain ⟨⟨_, k', p', a', _⟩, b', c'⟩ := h'
  rcases Nat.le_total k k' with l | l
  · exact Or.inl (tr_nest hG hw l a a' b c b' c')
  · exact Or.inr (tr_nest hG hw l a' a b' c' b c)
def sc_m (G : gm_G) (w : Nat → Nat) (len x i j : Nat) : Prop := sc_in G w len x i j ∧ ∀ i' j', sc_in G w len x i' j' → i' ≤ i ∧ j ≤ j'
theorem sc_len {G : gm_G} (hG : gm_gd G) {w : Nat → Nat} {len : Nat} (hw : w len = 10) {i j : Nat} (h : sc_S G w len i j) : i < j ∧ j ≤ len := by
  obtain ⟨a, k, p, b, _⟩ := h
  exact ⟨a, (tr_b hG hw k p i j b).2.2.2.2⟩
/-! the levels of derivations are few -/
theorem dr_lim {G : gm_G} {w : Nat → Nat} (hG : gm_ok G) : ∀ d n i j, j - i < d → dr_D G w n i j → dr_L G w (6 * (j - i + 1)) n i j := by
  intro d
  induction d with
  | zero => intro n i j h; omega
  | succ d ih =>
    intro n i j hd h
    have hF : ∃ F : (Nat → Prop) → Nat → Prop, F = fun P n => n < 6 ∧ ∃ p, p < gm_n G ∧ gm_r G p = n ∧ dr_sg G (fun n' i' j' => i' ≤ j' ∧ ((j' - i' < j - i ∧ dr_D G w n' i' j') ∨ (i' = i ∧ j' = j ∧ P n'))) w p (gm_l G p) 0 i j := ⟨_, rfl⟩
    obtain ⟨F, hF⟩ := hF
    have mono : fx_M F := by
      subst hF
      intro P Q hPQ a ⟨h1, p, h2, h3, h4⟩
      exact ⟨h1, p, h2, h3, dr_sg_m1 (fun n' i' j' z => ⟨z.1, z.2.elim Or.inl (fun q => Or.inr ⟨q.1, q.2.1, hPQ _ q.2.2⟩)⟩) h4⟩
    have bnd : ∀ P a, F P a → a < 6 := by
      subst hF
      intro P a h
      exact h.1
    have up : ∀ k n, dr_L G w k n i j → fx_L F k n := by
      intro k
      induction k with
      | zero => intro n h; exact h.elim
      | succ k ik =>
        intro n ⟨p, h2, h3, h4⟩
        show F (fx_L F k) n
        rw [hF]
        refine ⟨by rw [← h3]; exact (hG.2.1 p h2).1, p, h2, h3, ?_⟩
        refine dr_sg_mo (lo := i) (hi := j) (dr_L_le k) (fun n' i' j' l1 l2 z => ?_) (fun _ _ _ => rfl) _ _ i j (Nat.le_refl _) (Nat.le_refl _) h4
        have l3 := dr_L_le k _ _ _ z
        rcases Nat.lt_or_ge (j' - i') (j - i) with q | q
        · exact ⟨l3, Or.inl ⟨q, k, z⟩⟩
        · have e1 : i' = i := by omega
          have e2 : j' = j := by omega
          subst e1 e2
          exact ⟨l3, Or.inr ⟨rfl, rfl, hF ▸ ik n' z⟩⟩
    have dn : ∀ k n, fx_L F k n → dr_L G w (6 * (j - i) + k) n i j := by
      intro k
      induction k with
      | zero => intro n h; exact h.elim
      | succ k ik =>
        intro n h
        have h : F (fx_L F k) n := h
        rw [hF] at h
        obtain ⟨_, p, h2, h3, h4⟩ := h
        refine ⟨p, h2, h3, dr_sg_m1 (fun n' i' j' z => ?_) h4⟩
        rcases z with ⟨z0, ⟨z1, z2⟩ | ⟨rfl, rfl, z3⟩⟩
        · exact dr_L_lv (k' := 6 * (j - i) + k) (by omega) (ih n' i' j' (by omega) z2)
        · exact ik n' (by rw [hF]; exact z3)
    obtain ⟨k, h⟩ := h
    have z := dn 6 n (fx_N mono 6 bnd ⟨k, up k n h⟩)
    exact dr_L_lv (by omega) z
end
section
/-! bits, literals, indices -/
theorem ba_and0 {x y : Int32} : (x &&& y) = 0 ↔ ∀ t, t < 32 → ¬ (bt x t = true ∧ bt y t = true) := by
  constructor
  · intro h t ht ⟨a, b⟩
    have := congrArg (fun z => bt z t) h
    simp only [b_and, a, b, b_0] at this
    exact absurd this (by decide)
  · intro h
    apply b_ext
    intro i hi
    rw [b_and, b_0]
    have := h i hi
    cases hx : bt x i <;> cases hy : bt y i <;> simp_all
theorem ba_one : ∀ k, k < 32 → ∀ t, t < 32 → bt ((1 : Int32) <<< (nI k &&& 31)) t = decide (t = k) := by decide +kernel
theorem ba_two : ∀ k, k < 31 → ∀ t, t < 32 → bt ((2 : Int32) <<< (nI k &&& 31)) t = decide (t = k + 1) := by decide +kernel
theorem ba_1024 : ∀ t, t < 32 → bt 1024 t = decide (t = 10) := by decide +kernel
theorem ba_n1025 : ∀ t, t < 32 → bt (-1025) t = decide (t ≠ 10) := by decide +kernel
theorem ba_1 : ∀ t, t < 32 → bt 1 t = decide (t = 0) := by decide +kernel
theorem ba_t1 {x : Int32} {k : Nat} (hk : k < 32) : (x &&& ((1 : Int32) <<< (nI k &&& 31))) = 0 ↔ bt x k = false := by
  rw [ba_and0]
  constructor
  · intro h
    have := h k hk
    rw [ba_one k hk k hk] at this
    cases hx : bt x k <;> simp_all
  · intro h t ht ⟨a, b⟩
    rw [ba_one k hk t ht] at b
    have e : t = k := by simpa using b
    subst e
    rw [h] at a
    exact absurd a (by decide)
theorem ba_t1024 {x : Int32} : (x &&& 1024) = 0 ↔ bt x 10 = false := by
  have := ba_t1 (x := x) (k := 10) (by omega)
  rw [show (1 : Int32) <<< (nI 10 &&& 31) = 1024 from by decide +kernel] at this
  exact this
theorem ba_sh {x : Int32} {k : Nat} (hk : k < 32) : ((x >>> (nI k &&& 31)) &&& 1) = 0 ↔ bt x k = false := by
  rw [ba_and0]
  constructor
  · intro h
    have := h 0 (by omega)
    rw [b_sshr k hk x (by omega), ba_1 0 (by omega)] at this
    rw [if_pos (by omega)] at this
    cases hx : bt x k <;> simp_all
  · intro h t ht ⟨a, b⟩
    rw [ba_1 t ht] at b
    have e : t = 0 := by simpa using b
    subst e
    rw [b_sshr k hk x ht, if_pos (by omega), Nat.add_zero, h] at a
    exact absurd a (by decide)
theorem ba_b1 {x : Int32} : (x &&& 1) = 0 ↔ bt x 0 = false := by
  have := ba_t1 (x := x) (k := 0) (by omega)
  rw [show (1 : Int32) <<< (nI 0 &&& 31) = 1 from by decide +kernel] at this
  exact this
theorem ba_nf {b : Bool} : ¬ b = false ↔ b = true := by cases b <;> simp
theorem ba_x4 (a b : Nat) : nI a * 4 + nI b = nI (a * 4 + b) := by rw [show (4 : Int32) = nI 4 from rfl, pk_mul, nI_add]
theorem ba_4x (a b : Nat) : 4 * nI a + nI b = nI (a * 4 + b) := by rw [show (4 : Int32) = nI 4 from rfl, pk_mul, nI_add, Nat.mul_comm]
theorem ba_x20 (a b : Nat) : nI a * 20 + nI b = nI (a * 20 + b) := by rw [show (20 : Int32) = nI 20 from rfl, pk_mul, nI_add]
theorem ba_20x (a b : Nat) : 20 * nI a + nI b = nI (a * 20 + b) := by rw [show (20 : Int32) = nI 20 from rfl, pk_mul, nI_add, Nat.mul_comm]
theorem ba_x21 (a b : Nat) : nI a * 21 + nI b = nI (a * 21 + b) := by rw [show (21 : Int32) = nI 21 from rfl, pk_mul, nI_add]
theorem ba_22x (a b : Nat) : 22 * nI a + nI b = nI (a * 22 + b) := by rw [show (22 : Int32) = nI 22 from rfl, pk_mul, nI_add, Nat.mul_comm]
theorem ba_32x (a b : Nat) : 32 * nI a + nI b = nI (a * 32 + b) := by rw [show (32 : Int32) = nI 32 from rfl, pk_mul, nI_add, Nat.mul_comm]
theorem ba_20 (a : Nat) : nI a * 20 = nI (a * 20) := by rw [show (20 : Int32) = nI 20 from rfl, pk_mul]
theorem ba_p20 (a : Nat) : nI a + 20 = nI (a + 20) := by rw [show (20 : Int32) = nI 20 from rfl, nI_add]
theorem ba_m10 {a : Nat} (h : 10 ≤ a) : nI a - 10 = nI (a - 10) := by rw [show (10 : Int32) = nI 10 from rfl, pk_sub h]
theorem ba_m1 {a : Nat} (h : 1 ≤ a) : nI a - 1 = nI (a - 1) := by rw [show (1 : Int32) = nI 1 from rfl, pk_sub h]
theorem ba_s1 {a : Nat} (h : 1 ≤ a) : nI a + (-1) = nI (a - 1) := by
  obtain ⟨b, rfl⟩ : ∃ b, a = b + 1 := ⟨a - 1, by omega⟩
  rw [pk_m1, Nat.add_sub_cancel]
theorem ba_nb : ∀ k, k < 128 → (nI k).toInt8.toInt32 = nI k := by decide +kernel
theorem ba_vb {k : Nat} (h : k < 128) : vp_nar .byte (nI k) = nI k := by rw [vp_nar_byte, ba_nb k h]
theorem ba_ns : ∀ k, k < 700 → (nI k - 1).toInt16.toInt32 = nI k - 1 := by decide +kernel
theorem ba_vs {k : Nat} (h : k < 700) : vp_nar .short (nI k - 1) = nI k - 1 := by rw [vp_nar_short, ba_ns k h]
theorem ba_bool1 : vp_nar .boolean 1 = 1 := by rfl
theorem ba_bool0 : vp_nar .boolean 0 = 0 := by rfl
theorem ba_0 {x : Int32} {k : Nat} (h : x = nI k) (hk : k < 2 ^ 31) : x = 0 ↔ k = 0 := by
  rw [h]; exact nI_eq (b := 0) hk (by omega)
theorem ba_le {a b : Nat} (ha : a < 2 ^ 31) (hb : b < 2 ^ 31) : (nI a ≤ nI b) = (a ≤ b) := propext (nI_leI ha hb)
theorem ba_lt {a b : Nat} (ha : a < 2 ^ 31) (hb : b < 2 ^ 31) : (nI a < nI b) = (a < b) := propext (nI_ltI ha hb)
theorem ba_eq {a b : Nat} (ha : a < 2 ^ 31) (hb : b < 2 ^ 31) : (nI a = nI b) = (a = b) := propext (nI_eq ha hb)
theorem ba_up {f : Nat → Int32} {k j : Nat} {x : Int32} : upd f k x j = if j = k then x else f j := rfl
end
section
/-! X's build, first half: productive rules -/
def xg_ok (G : gm_G) (f_productionCount : Int32) (a_ruleOf a_marked a_symbolCount a_symbols a_roles : Nat → Int32) : Prop :=
  f_productionCount = nI (gm_n G) ∧ ∀ p, gm_v G p → a_ruleOf p = nI (gm_r G p) ∧ a_marked p = nI (gm_k G p) ∧ a_symbolCount p = nI (gm_l G p) ∧ ∀ m, m < gm_l G p → a_symbols (p * 4 + m) = nI (gm_s G p m) ∧ (gm_s G p m < 10 → a_roles (p * 4 + m) = nI (gm_o G p m))
theorem ba_10p (n : Nat) : 10 + nI n = nI (10 + n) := by rw [show (10 : Int32) = nI 10 from rfl, nI_add]
section
variable {f_built f_productionCount f_depth : Int32} {a_ruleOf a_marked a_symbolCount a_symbols a_roles a_derives a_first a_follow a_textLength a_kindAt a_valueAt a_failsAt a_expectedAt a_roleAt a_scopeAt a_openProduction a_openNext a_openStart a_targetBefore : Nat → Int32} {G : gm_G}
theorem xb_ad2 (hG : gm_ok G) (hx : xg_ok G f_productionCount a_ruleOf a_marked a_symbolCount a_symbols a_roles) {p : Nat} (hp : gm_v G p) (post : Int32 → Prop) (h1 : (∀ m, m < gm_l G p → 10 ≤ gm_s G p m → ¬ a_derives (gm_s G p m - 10) = 0) → post 1) (h0 : (∃ m, m < gm_l G p ∧ 10 ≤ gm_s G p m ∧ a_derives (gm_s G p m - 10) = 0) → post 0) :
    ∀ d m, m + d = gm_l G p → (∀ k, k < m → 10 ≤ gm_s G p k → ¬ a_derives (gm_s G p k - 10) = 0) → wX_allDerive_2 post (nI p) f_built f_productionCount f_depth a_ruleOf a_marked a_symbolCount a_symbols a_roles a_derives a_first a_follow a_textLength a_kindAt a_valueAt a_failsAt a_expectedAt a_roleAt a_scopeAt a_openProduction a_openNext a_openStart a_targetBefore (d + 1) (nI m) := by
  have hl := gm_vs hG hp
  have h15 := gm_v14 hG hp
  obtain ⟨_, _, e3, e4⟩ := hx.2 p hp
  have i1 : vp_in (nI p) 15 := vp_in_nI h15 (by omega)
  have c1 : (nI p).toNatClampNeg = p := nI_clamp (by omega)
  intro d
  induction d with
  | zero =>
    intro m hm hI
    rw [wX_allDerive_2]
    dsimp only
    rw [c1, e3]
    exact ⟨i1, br_t (nI_le (by omega) (by omega)) (h1 (fun k hk => hI k (by omega)))⟩
  | succ d ih =>
    intro m hm hI
    have hs := hl.2 m (by omega)
    have c2 : (nI (p * 4 + m)).toNatClampNeg = p * 4 + m := nI_clamp (by omega)
    have i2 : vp_in (nI (p * 4 + m)) 60 := vp_in_nI (by omega) (by omega)
    rw [wX_allDerive_2]
    dsimp only
    rw [c1, e3, ba_x4, c2, (e4 m (by omega)).1]
    refine ⟨i1, br_f (nI_ge (by omega) (by omega)) ⟨i2, nm_e ?_⟩⟩
    rcases Nat.lt_or_ge (gm_s G p m) 10 with z | z
    · refine br_t (nI_lt (b := 10) z (by omega)) (nm_r (nI_1 m) (ih (m + 1) (by omega) (fun k hk hk2 => ?_)))
      rcases Nat.lt_or_ge k m with y | y
      · exact hI k y hk2
      · have e : k = m := by omega
        subst e; omega
    · have c3 : (nI (gm_s G p m - 10)).toNatClampNeg = gm_s G p m - 10 := nI_clamp (by omega)
      refine br_f (nI_nlt (b := 10) z (by omega)) ?_
      rw [ba_m10 z, c3]
      refine ⟨vp_in_nI (by omega) (by omega), br_c (fun h => h0 ⟨m, by omega, z, h⟩) (fun h => nm_r (nI_1 m) (ih (m + 1) (by omega) (fun k hk hk2 => ?_)))⟩
      rcases Nat.lt_or_ge k m with y | y
      · exact hI k y hk2
      · have e : k = m := by omega
        subst e; exact h
theorem xb_ad (hG : gm_ok G) (hx : xg_ok G f_productionCount a_ruleOf a_marked a_symbolCount a_symbols a_roles) {p : Nat} (hp : gm_v G p) (post : Int32 → Prop) (h1 : (∀ m, m < gm_l G p → 10 ≤ gm_s G p m → ¬ a_derives (gm_s G p m - 10) = 0) → post 1) (h0 : (∃ m, m < gm_l G p ∧ 10 ≤ gm_s G p m ∧ a_derives (gm_s G p m - 10) = 0) → post 0) : wpX_allDerive post (f_built, f_productionCount, f_depth, a_ruleOf, a_marked, a_symbolCount, a_symbols, a_roles, a_derives, a_first, a_follow, a_textLength, a_kindAt, a_valueAt, a_failsAt, a_expectedAt, a_roleAt, a_scopeAt, a_openProduction, a_openNext, a_openStart, a_targetBefore) (nI p) :=
  ⟨gm_l G p + 1, xb_ad2 hG hx hp post h1 h0 (gm_l G p) 0 (by omega) (fun k hk => by omega)⟩
def xd_s (G : gm_G) (D : Nat → Int32) : Prop := ∀ n, n < 6 → D n = 0 ∨ (D n = 1 ∧ gm_M G n)
theorem xb_fd31 (hG : gm_ok G) (hx : xg_ok G f_productionCount a_ruleOf a_marked a_symbolCount a_symbols a_roles) {Q : Nat → Prop} (hQ : ∀ n, Q n → n < 6) (post : SX → Prop) (J23 : _) (x1 : Int32) (hJ : ∀ D, xd_s G D → (∀ n, gm_mF G Q n → D n = 1) → J23 (x1 + 1) a_ruleOf a_marked a_symbolCount a_symbols a_roles D a_first a_follow a_textLength a_kindAt a_valueAt a_failsAt a_expectedAt a_roleAt a_scopeAt a_openProduction a_openNext a_openStart a_targetBefore) :
    ∀ d p D, p + d = gm_n G → xd_s G D → (∀ n, Q n → D n = 1) → (∀ p', p' < p → (∀ m, m < gm_l G p' → 10 ≤ gm_s G p' m → Q (gm_s G p' m - 10)) → D (gm_r G p') = 1) → wX_findDerives_31 post J23 x1 f_built f_productionCount f_depth (d + 1) (nI p) a_ruleOf a_marked a_symbolCount a_symbols a_roles D a_first a_follow a_textLength a_kindAt a_valueAt a_failsAt a_expectedAt a_roleAt a_scopeAt a_openProduction a_openNext a_openStart a_targetBefore := by
  have h14 := hG.1
  have e0 := hx.1
  intro d
  induction d with
  | zero =>
    intro p D hp hs hq hI
    rw [wX_findDerives_31]
    dsimp only
    rw [e0]
    refine br_t (nI_le (by omega) (by omega)) (nm_e (hJ D hs (fun n hn => ?_)))
    obtain ⟨_, p', a, b, c⟩ := hn
    rw [← b]
    exact hI p' (by omega) c
  | succ d ih =>
    intro p D hp hs hq hI
    have hv : gm_v G p := Or.inl (by omega)
    have h6 := gm_v6 hG hv
    have c1 : (nI p).toNatClampNeg = p := nI_clamp (by omega)
    have c2 : (nI (gm_r G p)).toNatClampNeg = gm_r G p := nI_clamp (by omega)
    rw [wX_findDerives_31]
    dsimp only
    rw [e0]
    refine br_f (nI_ge (by omega) (by omega)) (xb_ad hG (e0 ▸ hx) hv _ (fun h => ?_) (fun h => ?_))
    · refine br_f (by decide) ?_
      rw [c1, (hx.2 p hv).1, c2]
      refine ⟨vp_in_nI (by omega) (by omega), vp_in_nI (by omega) (by omega), nm_r (congrArg _ ba_bool1) (nm_r (nI_1 p) ?_)⟩
      rw [← e0]
      have hM : gm_M G (gm_r G p) := gm_Me.mpr ⟨h6, p, by omega, rfl, fun m hm hm2 => by
        have := (gm_vs hG hv).2 m hm
        rcases hs (gm_s G p m - 10) (by omega) with z | z
        · exact absurd z (h m hm hm2)
        · exact z.2⟩
      refine ih (p + 1) _ (by omega) (fun n hn => ?_) (fun n hn => ?_) (fun p' hp' hm => ?_)
      · rw [ba_up]; split
        · next e => subst e; exact Or.inr ⟨rfl, hM⟩
        · exact hs n hn
      · rw [ba_up]; split
        · rfl
        · exact hq n hn
      · rw [ba_up]; split
        · rfl
        · next e =>
          rcases Nat.lt_or_ge p' p with y | y
          · exact hI p' y hm
          · have e2 : p' = p := by omega
            subst e2; exact absurd rfl e
    · refine br_t rfl (nm_r (nI_1 p) ?_)
      rw [← e0]
      refine ih (p + 1) _ (by omega) hs hq (fun p' hp' hm => ?_)
      rcases Nat.lt_or_ge p' p with y | y
      · exact hI p' y hm
      · have e2 : p' = p := by omega
        subst e2
        obtain ⟨m, h1, h2, h3⟩ := h
        have := hq _ (hm m h1 h2)
        rw [this] at h3
        exact absurd h3 (by decide)
theorem xb_fd23 (hG : gm_ok G) (hx : xg_ok G f_productionCount a_ruleOf a_marked a_symbolCount a_symbols a_roles) (post : SX → Prop) (hP : ∀ D, (∀ n, n < 6 → (D n = 1 ∧ gm_M G n) ∨ (D n = 0 ∧ ¬ gm_M G n)) → post (f_built, f_productionCount, f_depth, a_ruleOf, a_marked, a_symbolCount, a_symbols, a_roles, D, a_first, a_follow, a_textLength, a_kindAt, a_valueAt, a_failsAt, a_expectedAt, a_roleAt, a_scopeAt, a_openProduction, a_openNext, a_openStart, a_targetBefore)) :
    ∀ d k D, k + d = 67 → xd_s G D → (∀ n, fx_L (gm_mF G) k n → D n = 1) → wX_findDerives_23 post f_built f_productionCount f_depth (d + 1) (nI k) a_ruleOf a_marked a_symbolCount a_symbols a_roles D a_first a_follow a_textLength a_kindAt a_valueAt a_failsAt a_expectedAt a_roleAt a_scopeAt a_openProduction a_openNext a_openStart a_targetBefore := by
  intro d
  induction d with
  | zero =>
    intro k D hk hs hq
    rw [wX_findDerives_23]
    dsimp only
    refine br_t (nI_le (a := 67) (by omega) (by omega)) (hP D (fun n hn => ?_))
    rcases Classical.em (gm_M G n) with z | z
    · exact Or.inl ⟨hq n (fx_le (gm_mM G) (by omega) (gm_M6 z)), z⟩
    · rcases hs n hn with y | y
      · exact Or.inr ⟨y, z⟩
      · exact absurd y.2 z
  | succ d ih =>
    intro k D hk hs hq
    rw [wX_findDerives_23]
    dsimp only
    refine br_f (nI_ge (b := 67) (by omega) (by omega)) ⟨gm_n G + 1, xb_fd31 (Q := fx_L (gm_mF G) k) hG hx (fun n hn => ?_) post _ (nI k) (fun D' a b => ?_) (gm_n G) 0 D (by omega) hs hq (fun p' hp' => by omega)⟩
    · exact (gm_Me.mp ⟨k, hn⟩).1
    · rw [nI_1]
      exact ih (k + 1) D' (by omega) a b
theorem xb_fd2 (post : SX → Prop) (hP : ∀ D, (∀ n, n < 6 → D n = 0) → ∃ f, wX_findDerives_23 post f_built f_productionCount f_depth f 0 a_ruleOf a_marked a_symbolCount a_symbols a_roles D a_first a_follow a_textLength a_kindAt a_valueAt a_failsAt a_expectedAt a_roleAt a_scopeAt a_openProduction a_openNext a_openStart a_targetBefore) :
    ∀ d k D, k + d = 6 → (∀ n, n < k → D n = 0) → wX_findDerives_2 post f_built f_productionCount f_depth (d + 1) (nI k) a_ruleOf a_marked a_symbolCount a_symbols a_roles D a_first a_follow a_textLength a_kindAt a_valueAt a_failsAt a_expectedAt a_roleAt a_scopeAt a_openProduction a_openNext a_openStart a_targetBefore := by
  intro d
  induction d with
  | zero =>
    intro k D hk hs
    rw [wX_findDerives_2]
    dsimp only
    exact br_t (nI_le (a := 6) (by omega) (by omega)) (hP D (fun n hn => hs n (by omega)))
  | succ d ih =>
    intro k D hk hs
    have c1 : (nI k).toNatClampNeg = k := nI_clamp (by omega)
    rw [wX_findDerives_2]
    dsimp only
    rw [c1]
    refine br_f (nI_ge (b := 6) (by omega) (by omega)) ⟨vp_in_nI (by omega) (by omega), nm_r (congrArg _ ba_bool0) (nm_r (nI_1 k) (ih (k + 1) _ (by omega) (fun n hn => ?_)))⟩
    rw [ba_up]; split
    · rfl
    · exact hs n (by omega)
theorem xb_fd (hG : gm_ok G) (hx : xg_ok G f_productionCount a_ruleOf a_marked a_symbolCount a_symbols a_roles) (post : SX → Prop) (hP : ∀ D, (∀ n, n < 6 → (D n = 1 ∧ gm_M G n) ∨ (D n = 0 ∧ ¬ gm_M G n)) → post (f_built, f_productionCount, f_depth, a_ruleOf, a_marked, a_symbolCount, a_symbols, a_roles, D, a_first, a_follow, a_textLength, a_kindAt, a_valueAt, a_failsAt, a_expectedAt, a_roleAt, a_scopeAt, a_openProduction, a_openNext, a_openStart, a_targetBefore)) : wpX_findDerives post (f_built, f_productionCount, f_depth, a_ruleOf, a_marked, a_symbolCount, a_symbols, a_roles, a_derives, a_first, a_follow, a_textLength, a_kindAt, a_valueAt, a_failsAt, a_expectedAt, a_roleAt, a_scopeAt, a_openProduction, a_openNext, a_openStart, a_targetBefore) :=
  ⟨6 + 1, xb_fd2 post (fun D hD => ⟨67 + 1, xb_fd23 hG hx post hP 67 0 D (by omega) (fun n hn => Or.inl (hD n hn)) (fun n hn => hn.elim)⟩) 6 0 a_derives (by omega) (fun n hn => by omega)⟩
theorem xb_si2 (hG : gm_ok G) (hx : xg_ok G f_productionCount a_ruleOf a_marked a_symbolCount a_symbols a_roles) {p n : Nat} (hp : gm_v G p) (hn : n < 6) (post : Int32 → Prop) (h1 : (∃ m, m < gm_l G p ∧ gm_s G p m = 10 + n) → post 1) (h0 : (¬ ∃ m, m < gm_l G p ∧ gm_s G p m = 10 + n) → post 0) :
    ∀ d m, m + d = gm_l G p → (∀ k, k < m → ¬ gm_s G p k = 10 + n) → wX_standsIn_2 post (nI n) (nI p) f_built f_productionCount f_depth a_ruleOf a_marked a_symbolCount a_symbols a_roles a_derives a_first a_follow a_textLength a_kindAt a_valueAt a_failsAt a_expectedAt a_roleAt a_scopeAt a_openProduction a_openNext a_openStart a_targetBefore (d + 1) (nI m) := by
  have hl := gm_vs hG hp
  have h15 := gm_v14 hG hp
  obtain ⟨_, _, e3, e4⟩ := hx.2 p hp
  have i1 : vp_in (nI p) 15 := vp_in_nI h15 (by omega)
  have c1 : (nI p).toNatClampNeg = p := nI_clamp (by omega)
  intro d
  induction d with
  | zero =>
    intro m hm hI
    rw [wX_standsIn_2]
    dsimp only
    rw [c1, e3]
    exact ⟨i1, br_t (nI_le (by omega) (by omega)) (h0 (fun ⟨k, hk, hk2⟩ => hI k (by omega) hk2))⟩
  | succ d ih =>
    intro m hm hI
    have hs := hl.2 m (by omega)
    have c2 : (nI (p * 4 + m)).toNatClampNeg = p * 4 + m := nI_clamp (by omega)
    have i2 : vp_in (nI (p * 4 + m)) 60 := vp_in_nI (by omega) (by omega)
    rw [wX_standsIn_2]
    dsimp only
    rw [c1, e3, ba_x4, c2, (e4 m (by omega)).1, ba_10p]
    refine ⟨i1, br_f (nI_ge (by omega) (by omega)) ⟨i2, pk_eq (gm_s G p m) (10 + n) (fun h => h1 ⟨m, by omega, h⟩) (fun h => nm_r (nI_1 m) (ih (m + 1) (by omega) (fun k hk => ?_)))⟩⟩
    rcases Nat.lt_or_ge k m with y | y
    · exact hI k y
    · have e : k = m := by omega
      subst e; exact h
theorem xb_si (hG : gm_ok G) (hx : xg_ok G f_productionCount a_ruleOf a_marked a_symbolCount a_symbols a_roles) {p n : Nat} (hp : gm_v G p) (hn : n < 6) (post : Int32 → Prop) (h1 : (∃ m, m < gm_l G p ∧ gm_s G p m = 10 + n) → post 1) (h0 : (¬ ∃ m, m < gm_l G p ∧ gm_s G p m = 10 + n) → post 0) : wpX_standsIn post (f_built, f_productionCount, f_depth, a_ruleOf, a_marked, a_symbolCount, a_symbols, a_roles, a_derives, a_first, a_follow, a_textLength, a_kindAt, a_valueAt, a_failsAt, a_expectedAt, a_roleAt, a_scopeAt, a_openProduction, a_openNext, a_openStart, a_targetBefore) (nI n) (nI p) :=
  ⟨gm_l G p + 1, xb_si2 hG hx hp hn post h1 h0 (gm_l G p) 0 (by omega) (fun k hk => by omega)⟩
theorem xb_in8 (hG : gm_ok G) (hx : xg_ok G f_productionCount a_ruleOf a_marked a_symbolCount a_symbols a_roles) {n : Nat} (hn : n < 6) (post : Int32 → Prop) (h1 : gm_us G n → post 1) (h0 : (∀ p, p < gm_n G → ¬ (gm_r G p = n ∨ ∃ m, m < gm_l G p ∧ gm_s G p m = 10 + n)) → post 0) :
    ∀ d p, p + d = gm_n G → (∀ k, k < p → ¬ (gm_r G k = n ∨ ∃ m, m < gm_l G k ∧ gm_s G k m = 10 + n)) → wX_isNeeded_8 post (nI n) f_built f_productionCount f_depth a_ruleOf a_marked a_symbolCount a_symbols a_roles a_derives a_first a_follow a_textLength a_kindAt a_valueAt a_failsAt a_expectedAt a_roleAt a_scopeAt a_openProduction a_openNext a_openStart a_targetBefore (d + 1) (nI p) := by
  have h14 := hG.1
  have e0 := hx.1
  intro d
  induction d with
  | zero =>
    intro p hp hI
    rw [wX_isNeeded_8]
    dsimp only
    rw [e0]
    exact br_t (nI_le (by omega) (by omega)) (h0 (fun k hk => hI k (by omega)))
  | succ d ih =>
    intro p hp hI
    have hv : gm_v G p := Or.inl (by omega)
    have h6 := gm_v6 hG hv
    have c1 : (nI p).toNatClampNeg = p := nI_clamp (by omega)
    rw [wX_isNeeded_8]
    dsimp only
    rw [e0, c1, (hx.2 p hv).1]
    refine br_f (nI_ge (by omega) (by omega)) ⟨vp_in_nI (by omega) (by omega), pk_eq (gm_r G p) n (fun h => h1 (Or.inr ⟨p, by omega, Or.inl h⟩)) (fun h => ?_)⟩
    refine xb_si hG (e0 ▸ hx) hv hn _ (fun h2 => br_f (by decide) (h1 (Or.inr ⟨p, by omega, Or.inr h2⟩))) (fun h2 => br_t rfl (nm_r (nI_1 p) ?_))
    rw [← e0]
    refine ih (p + 1) (by omega) (fun k hk => ?_)
    rcases Nat.lt_or_ge k p with y | y
    · exact hI k y
    · have e : k = p := by omega
      subst e
      exact fun z => z.elim h h2
theorem xb_in (hG : gm_ok G) (hx : xg_ok G f_productionCount a_ruleOf a_marked a_symbolCount a_symbols a_roles) {n : Nat} (hn : n < 6) (post : Int32 → Prop) (h1 : gm_us G n → post 1) (h0 : ¬ gm_us G n → post 0) : wpX_isNeeded post (f_built, f_productionCount, f_depth, a_ruleOf, a_marked, a_symbolCount, a_symbols, a_roles, a_derives, a_first, a_follow, a_textLength, a_kindAt, a_valueAt, a_failsAt, a_expectedAt, a_roleAt, a_scopeAt, a_openProduction, a_openNext, a_openStart, a_targetBefore) (nI n) := by
  refine pk_eq n 0 (fun h => h1 (Or.inl h)) (fun h => ⟨gm_n G + 1, xb_in8 hG hx hn post h1 (fun h2 => h0 (fun z => ?_)) (gm_n G) 0 (by omega) (fun k hk => by omega)⟩)
  rcases z with z | ⟨p, z1, z2⟩
  · exact h z
  · exact h2 p z1 z2
/-- the least rule that is needed and derives nothing -/
def gm_br (G : gm_G) (r : Int32) : Prop := (∃ n, n < 6 ∧ gm_us G n ∧ ¬ gm_M G n ∧ (∀ n', n' < n → gm_us G n' → gm_M G n') ∧ r = nI n) ∨ ((∀ n, n < 6 → gm_us G n → gm_M G n) ∧ r = -1)
theorem xb_lb2 (hG : gm_ok G) (hx : xg_ok G f_productionCount a_ruleOf a_marked a_symbolCount a_symbols a_roles) (hD : ∀ n, n < 6 → (a_derives n = 1 ∧ gm_M G n) ∨ (a_derives n = 0 ∧ ¬ gm_M G n)) (post : Int32 → Prop) (hP : ∀ r, gm_br G r → post r) :
    ∀ d k, k + d = 6 → (∀ n, n < k → gm_us G n → gm_M G n) → wX_leastBarrenRule_2 post f_built f_productionCount f_depth a_ruleOf a_marked a_symbolCount a_symbols a_roles a_derives a_first a_follow a_textLength a_kindAt a_valueAt a_failsAt a_expectedAt a_roleAt a_scopeAt a_openProduction a_openNext a_openStart a_targetBefore (d + 1) (nI k) := by
  intro d
  induction d with
  | zero =>
    intro k hk hI
    rw [wX_leastBarrenRule_2]
    dsimp only
    exact br_t (nI_le (a := 6) (by omega) (by omega)) (hP _ (Or.inr ⟨fun n hn => hI n (by omega), rfl⟩))
  | succ d ih =>
    intro k hk hI
    have c1 : (nI k).toNatClampNeg = k := nI_clamp (by omega)
    rw [wX_leastBarrenRule_2]
    dsimp only
    rw [c1]
    refine br_f (nI_ge (b := 6) (by omega) (by omega)) ⟨vp_in_nI (by omega) (by omega), ?_⟩
    rcases hD k (by omega) with ⟨z, y⟩ | ⟨z, y⟩
    · refine br_f (by rw [z]; decide) (nm_r (nI_1 k) (ih (k + 1) (by omega) (fun n hn hu => ?_)))
      rcases Nat.lt_or_ge n k with q | q
      · exact hI n q hu
      · have e : n = k := by omega
        subst e; exact y
    · refine br_t z (xb_in hG hx (by omega) _ (fun h => br_f (by decide) (hP _ (Or.inl ⟨k, by omega, h, y, hI, rfl⟩))) (fun h => br_t rfl (nm_r (nI_1 k) (ih (k + 1) (by omega) (fun n hn hu => ?_)))))
      rcases Nat.lt_or_ge n k with q | q
      · exact hI n q hu
      · have e : n = k := by omega
        subst e; exact absurd hu h
theorem xb_lb (hG : gm_ok G) (hx : xg_ok G f_productionCount a_ruleOf a_marked a_symbolCount a_symbols a_roles) (hD : ∀ n, n < 6 → (a_derives n = 1 ∧ gm_M G n) ∨ (a_derives n = 0 ∧ ¬ gm_M G n)) (post : Int32 → Prop) (hP : ∀ r, gm_br G r → post r) : wpX_leastBarrenRule post (f_built, f_productionCount, f_depth, a_ruleOf, a_marked, a_symbolCount, a_symbols, a_roles, a_derives, a_first, a_follow, a_textLength, a_kindAt, a_valueAt, a_failsAt, a_expectedAt, a_roleAt, a_scopeAt, a_openProduction, a_openNext, a_openStart, a_targetBefore) :=
  ⟨6 + 1, xb_lb2 hG hx hD post hP 6 0 (by omega) (fun n hn => by omega)⟩
end
end
section
/-! X's build, second half: FIRST, FOLLOW, conflicts -/
def gm_xq (G : gm_G) (B : Nat → Nat → Prop) (p m t : Nat) : Prop := (t < 10 ∧ gm_fs G (B 10) (B t) t p m) ∨ (t = 10 ∧ gm_pn G (B 10) p m (gm_l G p))
theorem gm_fs_e {G : gm_G} {E P : Nat → Prop} {t p m : Nat} : gm_fs G E P t p m ↔ m < gm_l G p ∧ (gm_s G p m = t ∨ (10 ≤ gm_s G p m ∧ P (gm_s G p m - 10)) ∨ (10 ≤ gm_s G p m ∧ E (gm_s G p m - 10) ∧ gm_fs G E P t p (m + 1))) := by
  constructor
  · intro ⟨m', a, b, c, d⟩
    refine ⟨by omega, ?_⟩
    rcases Nat.lt_or_ge m m' with z | z
    · have q := c m (Nat.le_refl _) z
      exact Or.inr (Or.inr ⟨q.1, q.2, m', z, b, fun k k1 k2 => c k (by omega) k2, d⟩)
    · have e : m' = m := by omega
      subst e
      exact d.elim Or.inl (fun q => Or.inr (Or.inl q))
  · intro ⟨a, b⟩
    rcases b with b | b | ⟨b, c, m', d, e, f, g⟩
    · exact ⟨m, Nat.le_refl _, a, fun k k1 k2 => by omega, Or.inl b⟩
    · exact ⟨m, Nat.le_refl _, a, fun k k1 k2 => by omega, Or.inr b⟩
    · refine ⟨m', by omega, e, fun k k1 k2 => ?_, g⟩
      rcases Nat.lt_or_ge m k with z | z
      · exact f k z k2
      · have q : k = m := by omega
        subst q; exact ⟨b, c⟩
theorem gm_pn_e {G : gm_G} {E : Nat → Prop} {p m l : Nat} (h : m < l) : gm_pn G E p m l ↔ 10 ≤ gm_s G p m ∧ E (gm_s G p m - 10) ∧ gm_pn G E p (m + 1) l := by
  constructor
  · intro a
    have q := a m (Nat.le_refl _) h
    exact ⟨q.1, q.2, fun k k1 k2 => a k (by omega) k2⟩
  · intro ⟨a, b, c⟩ k k1 k2
    rcases Nat.lt_or_ge m k with z | z
    · exact c k z k2
    · have q : k = m := by omega
      subst q; exact ⟨a, b⟩
theorem gm_xq0 {G : gm_G} {B : Nat → Nat → Prop} {p m t : Nat} (h : gm_l G p ≤ m) : gm_xq G B p m t ↔ t = 10 := by
  constructor
  · rintro (⟨_, m', a, b, _⟩ | ⟨a, _⟩)
    · omega
    · exact a
  · intro a
    exact Or.inr ⟨a, fun k k1 k2 => by omega⟩
theorem gm_xqt {G : gm_G} {B : Nat → Nat → Prop} {p m t : Nat} (h : m < gm_l G p) (hs : gm_s G p m < 10) : gm_xq G B p m t ↔ t = gm_s G p m := by
  unfold gm_xq
  rw [gm_fs_e, gm_pn_e h]
  constructor
  · rintro (⟨a, b, c | c | c⟩ | ⟨a, b, _⟩) <;> omega
  · intro a
    exact Or.inl ⟨by omega, h, Or.inl a.symm⟩
theorem gm_xqr {G : gm_G} {B : Nat → Nat → Prop} {p m t : Nat} (h : m < gm_l G p) (hs : 10 ≤ gm_s G p m) : gm_xq G B p m t ↔ (t < 10 ∧ B t (gm_s G p m - 10)) ∨ (B 10 (gm_s G p m - 10) ∧ gm_xq G B p (m + 1) t) := by
  unfold gm_xq
  rw [gm_fs_e, gm_pn_e h]
  constructor
  · rintro (⟨a, b, c | c | c⟩ | ⟨a, b, c, d⟩)
    · omega
    · exact Or.inl ⟨a, c.2⟩
    · exact Or.inr ⟨c.2.1, Or.inl ⟨a, c.2.2⟩⟩
    · exact Or.inr ⟨c, Or.inr ⟨a, d⟩⟩
  · rintro (⟨a, b⟩ | ⟨a, ⟨b, c⟩ | ⟨b, c⟩⟩)
    · exact Or.inl ⟨a, h, Or.inr (Or.inl ⟨hs, b⟩)⟩
    · exact Or.inl ⟨b, h, Or.inr (Or.inr ⟨hs, a, c⟩)⟩
    · exact Or.inr ⟨b, hs, a, c⟩
/-- a mask holds a set of bits -/
def gm_ms (x : Int32) (P : Nat → Prop) : Prop := ∀ t, t < 32 → (bt x t = true ↔ P t)
theorem gm_ms_eq {x y : Int32} {P : Nat → Prop} (h : gm_ms x P) (h' : gm_ms y P) : x = y := by
  apply b_ext
  intro i hi
  have a := (h i hi).trans (h' i hi).symm
  cases hx : bt x i <;> cases hy : bt y i <;> simp_all
theorem gm_ms_if {x : Int32} {P Q : Nat → Prop} (h : gm_ms x P) (e : ∀ t, t < 32 → (P t ↔ Q t)) : gm_ms x Q := fun t ht => (h t ht).trans (e t ht)
section
variable {f_built f_productionCount f_depth : Int32} {a_ruleOf a_marked a_symbolCount a_symbols a_roles a_derives a_first a_follow a_textLength a_kindAt a_valueAt a_failsAt a_expectedAt a_roleAt a_scopeAt a_openProduction a_openNext a_openStart a_targetBefore : Nat → Int32} {G : gm_G}
theorem xb_fr7e {p : Nat} (hp : p < 15) (post : Int32 → Prop) {x3 : Int32} (hb : bt x3 10 = false) (h : post x3) (n : Nat) (k : Int32) : wX_firstOfRest_7 post (nI p) f_built f_productionCount f_depth a_ruleOf a_marked a_symbolCount a_symbols a_roles a_derives a_first a_follow a_textLength a_kindAt a_valueAt a_failsAt a_expectedAt a_roleAt a_scopeAt a_openProduction a_openNext a_openStart a_targetBefore (n + 1) x3 k := by
  rw [wX_firstOfRest_7]
  dsimp only
  exact ⟨vp_in_nI hp (by omega), br_c (fun _ => h) (fun _ => br_t (ba_t1024.mpr hb) h)⟩
theorem xb_fr7 (hG : gm_ok G) (hx : xg_ok G f_productionCount a_ruleOf a_marked a_symbolCount a_symbols a_roles) {B : Nat → Nat → Prop} (hB : ∀ n, n < 6 → gm_ms (a_first n) (fun t => t ≤ 10 ∧ B t n)) {p : Nat} (hp : gm_v G p) (post : Int32 → Prop) :
    ∀ d k x3, k + d = gm_l G p → bt x3 10 = true → (∀ r, gm_ms r (fun t => (t ≠ 10 ∧ bt x3 t = true) ∨ gm_xq G B p k t) → post r) → wX_firstOfRest_7 post (nI p) f_built f_productionCount f_depth a_ruleOf a_marked a_symbolCount a_symbols a_roles a_derives a_first a_follow a_textLength a_kindAt a_valueAt a_failsAt a_expectedAt a_roleAt a_scopeAt a_openProduction a_openNext a_openStart a_targetBefore (d + 1) x3 (nI k) := by
  have hl := gm_vs hG hp
  have h15 := gm_v14 hG hp
  obtain ⟨_, _, e3, e4⟩ := hx.2 p hp
  have i1 : vp_in (nI p) 15 := vp_in_nI h15 (by omega)
  have c1 : (nI p).toNatClampNeg = p := nI_clamp (by omega)
  intro d
  induction d with
  | zero =>
    intro k x3 hk hb hP
    rw [wX_firstOfRest_7]
    dsimp only
    rw [c1, e3]
    refine ⟨i1, br_t (nI_le (by omega) (by omega)) (hP x3 (fun t ht => ?_))⟩
    dsimp only
    rw [gm_xq0 (by omega)]
    rcases Classical.em (t = 10) with e | e
    · subst e; simp [hb]
    · simp [e]
  | succ d ih =>
    intro k x3 hk hb hP
    have hs := hl.2 k (by omega)
    have hk2 : k < gm_l G p := by omega
    have c2 : (nI (p * 4 + k)).toNatClampNeg = p * 4 + k := nI_clamp (by omega)
    have i2 : vp_in (nI (p * 4 + k)) 60 := vp_in_nI (by omega) (by omega)
    rw [wX_firstOfRest_7]
    dsimp only
    rw [c1, e3, ba_x4, c2, (e4 k (by omega)).1]
    refine ⟨i1, br_f (nI_ge (by omega) (by omega)) (br_f (by rw [ba_t1024, hb]; decide) ⟨i2, nm_e ?_⟩)⟩
    rcases Nat.lt_or_ge (gm_s G p k) 10 with z | z
    · refine br_f (nI_ge (b := 10) z (by omega)) (nm_e (nm_e (xb_fr7e h15 _ ?_ (hP _ (fun t ht => ?_)) d _)))
      · rw [b_or, b_and, ba_n1025 10 (by omega), ba_one _ (by omega) 10 (by omega), decide_eq_false (by omega), decide_eq_false (by omega)]; simp
      · dsimp only
        rw [b_or, b_and, ba_n1025 t ht, ba_one _ (by omega) t ht, gm_xqt hk2 z]
        simp [and_comm]
    · have c3 : (nI (gm_s G p k - 10)).toNatClampNeg = gm_s G p k - 10 := nI_clamp (by omega)
      have hf := hB (gm_s G p k - 10) (by omega)
      refine br_t (nI_le (a := 10) z (by omega)) ?_
      rw [ba_m10 z, c3]
      refine ⟨vp_in_nI (by omega) (by omega), nm_e (nm_r (nI_1 k) ?_)⟩
      rcases Classical.em (B 10 (gm_s G p k - 10)) with q | q
      · refine ih (k + 1) _ (by omega) ?_ (fun r hr => hP r (fun t ht => ?_))
        · rw [b_or, (hf 10 (by omega)).mpr ⟨by omega, q⟩]; simp
        · rw [hr t ht]
          dsimp only
          rw [gm_xqr hk2 z, b_or, b_and, ba_n1025 t ht, Bool.or_eq_true, Bool.and_eq_true, hf t ht]
          dsimp only
          rcases Classical.em (t = 10) with e | e
          · subst e; simp [q]
          · have e2 : t ≤ 10 ↔ t < 10 := by omega
            simp only [ne_eq, e, not_false_eq_true, decide_true, and_true, true_and, e2, q]
            constructor
            · rintro ((h | h) | h)
              · exact Or.inl h
              · exact Or.inr (Or.inl h)
              · exact Or.inr (Or.inr h)
            · rintro (h | h | h)
              · exact Or.inl (Or.inl h)
              · exact Or.inl (Or.inr h)
              · exact Or.inr h
      · have q0 : bt (a_first (gm_s G p k - 10)) 10 = false := by
          have := hf 10 (by omega)
          cases hh : bt (a_first (gm_s G p k - 10)) 10
          · rfl
          · exact absurd (this.mp hh).2 q
        refine xb_fr7e h15 _ ?_ (hP _ (fun t ht => ?_)) d _
        · rw [b_or, b_and, ba_n1025 10 (by omega), q0]; simp
        · dsimp only
          rw [gm_xqr hk2 z, b_or, b_and, ba_n1025 t ht, Bool.or_eq_true, Bool.and_eq_true, hf t ht]
          dsimp only
          rcases Classical.em (t = 10) with e | e
          · subst e; simp [q]
          · have e2 : t ≤ 10 ↔ t < 10 := by omega
            simp [e, e2, q]
theorem xb_fr (hG : gm_ok G) (hx : xg_ok G f_productionCount a_ruleOf a_marked a_symbolCount a_symbols a_roles) {B : Nat → Nat → Prop} (hB : ∀ n, n < 6 → gm_ms (a_first n) (fun t => t ≤ 10 ∧ B t n)) {p m : Nat} (hp : gm_v G p) (hm : m ≤ gm_l G p) (post : Int32 → Prop) (hP : ∀ r, gm_ms r (gm_xq G B p m) → post r) : wpX_firstOfRest post (f_built, f_productionCount, f_depth, a_ruleOf, a_marked, a_symbolCount, a_symbols, a_roles, a_derives, a_first, a_follow, a_textLength, a_kindAt, a_valueAt, a_failsAt, a_expectedAt, a_roleAt, a_scopeAt, a_openProduction, a_openNext, a_openStart, a_targetBefore) (nI p) (nI m) := by
  refine ⟨gm_l G p - m + 1, xb_fr7 hG hx hB hp post (gm_l G p - m) m 1024 (by omega) (ba_1024 10 (by omega)) (fun r hr => hP r (fun t ht => ?_))⟩
  rw [hr t ht]
  dsimp only
  rw [ba_1024 t ht]
  simp
/-! FIRST -/
theorem gm_xq_mo {B B' : Nat → Nat → Prop} (h : ∀ t n, B t n → B' t n) {p m t : Nat} (z : gm_xq G B p m t) : gm_xq G B' p m t :=
  z.elim (fun q => Or.inl ⟨q.1, gm_fs_mo (h 10) (h t) q.2⟩) (fun q => Or.inr ⟨q.1, gm_pn_mo (h 10) q.2⟩)
def gm_FU (G : gm_G) (t n : Nat) : Prop := (t < 10 ∧ gm_F G t n) ∨ (t = 10 ∧ gm_U G n)
theorem gm_xFU {p m t : Nat} : gm_xq G (gm_FU G) p m t ↔ gm_fq G t p m ∨ (t = 10 ∧ gm_uq G p m) := by
  have e10 : ∀ n, gm_FU G 10 n ↔ gm_U G n := fun n => ⟨fun h => h.elim (fun q => absurd q.1 (by omega)) (fun q => q.2), fun h => Or.inr ⟨rfl, h⟩⟩
  have et : ∀ t, t < 10 → ∀ n, gm_FU G t n ↔ gm_F G t n := fun t ht n => ⟨fun h => h.elim (fun q => q.2) (fun q => by omega), fun h => Or.inl ⟨ht, h⟩⟩
  constructor
  · rintro (⟨a, b⟩ | ⟨a, b⟩)
    · exact Or.inl ⟨a, gm_fs_mo (fun n => (e10 n).mp) (fun n => (et t a n).mp) b⟩
    · exact Or.inr ⟨a, gm_pn_mo (fun n => (e10 n).mp) b⟩
  · rintro (⟨a, b⟩ | ⟨a, b⟩)
    · exact Or.inl ⟨a, gm_fs_mo (fun n => (e10 n).mpr) (fun n => (et t a n).mpr) b⟩
    · exact Or.inr ⟨a, gm_pn_mo (fun n => (e10 n).mpr) b⟩
/-- levels of FIRST with nullable: nullable first, six rounds, then the terminals -/
def gm_FL (G : gm_G) (k t n : Nat) : Prop := (t = 10 ∧ fx_L (gm_uF G) k n) ∨ (t < 10 ∧ fx_L (gm_fF G t) (k - 6) n)
theorem gm_FL_s {k t n : Nat} (h : gm_FL G k t n) : gm_FU G t n := h.elim (fun q => Or.inr ⟨q.1, k, q.2⟩) (fun q => Or.inl ⟨q.1, _, q.2⟩)
theorem gm_FL_n {k t n : Nat} (h : gm_FL G (k + 1) t n) : ∃ p, p < gm_n G ∧ gm_r G p = n ∧ gm_xq G (gm_FL G k) p 0 t := by
  rcases h with ⟨a, b, p, c, d, e⟩ | ⟨a, b⟩
  · exact ⟨p, c, d, Or.inr ⟨a, gm_pn_mo (fun n q => Or.inl ⟨rfl, q⟩) e⟩⟩
  · rcases Nat.lt_or_ge k 6 with z | z
    · rw [show k + 1 - 6 = 0 from by omega] at b
      exact b.elim
    · rw [show k + 1 - 6 = (k - 6) + 1 from by omega] at b
      obtain ⟨_, _, p, c, d, e⟩ := b
      exact ⟨p, c, d, Or.inl ⟨a, gm_fs_mo (fun n q => Or.inl ⟨rfl, fx_le (gm_uM G) (by omega) (gm_U6 q)⟩) (fun n q => Or.inr ⟨a, q⟩) e⟩⟩
theorem gm_FL_e {t n : Nat} (h : gm_FU G t n) : gm_FL G 67 t n := h.elim (fun q => Or.inr ⟨q.1, fx_le (gm_fM G t) (by omega) (gm_F6 q.2)⟩) (fun q => Or.inl ⟨q.1, fx_le (gm_uM G) (by omega) (gm_U6 q.2)⟩)
theorem gm_FUc {p t n : Nat} (hG : gm_ok G) (hp : p < gm_n G) (hr : gm_r G p = n) (h : gm_xq G (gm_FU G) p 0 t) : gm_FU G t n := by
  have h6 := (hG.2.1 p hp).1
  rcases gm_xFU.mp h with h | ⟨a, b⟩
  · exact Or.inl ⟨h.1, gm_Fe.mpr ⟨by omega, h.1, p, hp, hr, h.2⟩⟩
  · exact Or.inr ⟨a, gm_Ue.mpr ⟨by omega, p, hp, hr, b⟩⟩
def xf_s (G : gm_G) (F : Nat → Int32) : Prop := ∀ n, n < 6 → ∀ t, t < 32 → bt (F n) t = true → gm_FU G t n
def xf_c (Q : Nat → Nat → Prop) (F : Nat → Int32) : Prop := ∀ n, n < 6 → ∀ t, Q t n → bt (F n) t = true
theorem xf_ms {F : Nat → Int32} (hs : xf_s G F) : ∀ n, n < 6 → gm_ms (F n) (fun t => t ≤ 10 ∧ (t < 32 ∧ n < 6 ∧ bt (F n) t = true)) := by
  intro n hn t ht
  constructor
  · intro h
    have := hs n hn t ht h
    exact ⟨this.elim (fun q => by omega) (fun q => by omega), ht, hn, h⟩
  · exact fun h => h.2.2.2
theorem gm_FU6 {t n : Nat} (h : gm_FU G t n) : n < 6 ∧ t ≤ 10 := h.elim (fun q => ⟨(gm_Fe.mp q.2).1, by omega⟩) (fun q => ⟨(gm_Ue.mp q.2).1, by omega⟩)
theorem xb_ff31 (hG : gm_ok G) (hx : xg_ok G f_productionCount a_ruleOf a_marked a_symbolCount a_symbols a_roles) {Q : Nat → Nat → Prop} (hQ : ∀ t n, Q t n → gm_FU G t n) (post : SX → Prop) (J23 : _) (x1 : Int32) (hJ : ∀ F, xf_s G F → (∀ t n, (∃ p, p < gm_n G ∧ gm_r G p = n ∧ gm_xq G Q p 0 t) → bt (F n) t = true) → J23 (x1 + 1) a_ruleOf a_marked a_symbolCount a_symbols a_roles a_derives F a_follow a_textLength a_kindAt a_valueAt a_failsAt a_expectedAt a_roleAt a_scopeAt a_openProduction a_openNext a_openStart a_targetBefore) :
    ∀ d p F, p + d = gm_n G → xf_s G F → xf_c Q F → (∀ p', p' < p → ∀ t, gm_xq G Q p' 0 t → bt (F (gm_r G p')) t = true) → wX_findFirst_31 post J23 x1 f_built f_productionCount f_depth (d + 1) (nI p) a_ruleOf a_marked a_symbolCount a_symbols a_roles a_derives F a_follow a_textLength a_kindAt a_valueAt a_failsAt a_expectedAt a_roleAt a_scopeAt a_openProduction a_openNext a_openStart a_targetBefore := by
  have h14 := hG.1
  have e0 := hx.1
  intro d
  induction d with
  | zero =>
    intro p F hp hs hq hI
    rw [wX_findFirst_31]
    dsimp only
    rw [e0]
    refine br_t (nI_le (by omega) (by omega)) (nm_e (hJ F hs (fun t n hn => ?_)))
    obtain ⟨p', a, b, c⟩ := hn
    rw [← b]
    exact hI p' (by omega) t c
  | succ d ih =>
    intro p F hp hs hq hI
    have hv : gm_v G p := Or.inl (by omega)
    have h6 := gm_v6 hG hv
    have c1 : (nI p).toNatClampNeg = p := nI_clamp (by omega)
    have c2 : (nI (gm_r G p)).toNatClampNeg = gm_r G p := nI_clamp (by omega)
    rw [wX_findFirst_31]
    dsimp only
    rw [e0, c1, (hx.2 p hv).1, c2]
    have i2 : vp_in (nI (gm_r G p)) 6 := vp_in_nI (by omega) (by omega)
    refine br_f (nI_ge (by omega) (by omega)) ⟨vp_in_nI (by omega) (by omega), i2, xb_fr (m := 0) hG (e0 ▸ hx) (xf_ms hs) hv (by omega) _ (fun r hr => ⟨i2, nm_e (nm_r (nI_1 p) ?_)⟩)⟩
    rw [← e0]
    have hr1 : ∀ t, t < 32 → bt r t = true → gm_FU G t (gm_r G p) := fun t ht h => gm_FUc hG (by omega) rfl (gm_xq_mo (fun t n q => hs n q.2.1 t q.1 q.2.2) ((hr t ht).mp h))
    refine ih (p + 1) _ (by omega) (fun n hn t ht h => ?_) (fun n hn t h => ?_) (fun p' hp' t h => ?_)
    · rw [ba_up] at h; split at h
      · next e =>
        subst e
        rw [b_or, Bool.or_eq_true] at h
        exact h.elim (hs _ hn t ht) (hr1 t ht)
      · exact hs n hn t ht h
    · rw [ba_up]; split
      · next e => subst e; rw [b_or, hq _ hn t h]; rfl
      · exact hq n hn t h
    · rw [ba_up]; split
      · next e =>
        rw [b_or, Bool.or_eq_true]
        rcases Nat.lt_or_ge p' p with y | y
        · exact Or.inl (e ▸ hI p' y t h)
        · have e2 : p' = p := by omega
          subst e2
          have h10 : t < 32 := by
            rcases h with h | h <;> omega
          exact Or.inr ((hr t h10).mpr (gm_xq_mo (fun t n q => ⟨by have := gm_FU6 (hQ t n q); omega, (gm_FU6 (hQ t n q)).1, hq n (gm_FU6 (hQ t n q)).1 t q⟩) h))
      · next e =>
        rcases Nat.lt_or_ge p' p with y | y
        · exact hI p' y t h
        · have e2 : p' = p := by omega
          subst e2; exact absurd rfl e
theorem xb_ff23 (hG : gm_ok G) (hx : xg_ok G f_productionCount a_ruleOf a_marked a_symbolCount a_symbols a_roles) (post : SX → Prop) (hP : ∀ F, (∀ n, n < 6 → gm_ms (F n) (fun t => t ≤ 10 ∧ gm_FU G t n)) → post (f_built, f_productionCount, f_depth, a_ruleOf, a_marked, a_symbolCount, a_symbols, a_roles, a_derives, F, a_follow, a_textLength, a_kindAt, a_valueAt, a_failsAt, a_expectedAt, a_roleAt, a_scopeAt, a_openProduction, a_openNext, a_openStart, a_targetBefore)) :
    ∀ d k F, k + d = 67 → xf_s G F → xf_c (gm_FL G k) F → wX_findFirst_23 post f_built f_productionCount f_depth (d + 1) (nI k) a_ruleOf a_marked a_symbolCount a_symbols a_roles a_derives F a_follow a_textLength a_kindAt a_valueAt a_failsAt a_expectedAt a_roleAt a_scopeAt a_openProduction a_openNext a_openStart a_targetBefore := by
  intro d
  induction d with
  | zero =>
    intro k F hk hs hq
    rw [wX_findFirst_23]
    dsimp only
    refine br_t (nI_le (a := 67) (by omega) (by omega)) (hP F (fun n hn t ht => ⟨fun h => ⟨(gm_FU6 (hs n hn t ht h)).2, hs n hn t ht h⟩, fun h => ?_⟩))
    have e : k = 67 := by omega
    subst e
    exact hq n hn t (gm_FL_e h.2)
  | succ d ih =>
    intro k F hk hs hq
    rw [wX_findFirst_23]
    dsimp only
    refine br_f (nI_ge (b := 67) (by omega) (by omega)) ⟨gm_n G + 1, xb_ff31 (Q := gm_FL G k) hG hx (fun t n => gm_FL_s) post _ (nI k) (fun F' a b => ?_) (gm_n G) 0 F (by omega) hs hq (fun p' hp' => by omega)⟩
    rw [nI_1]
    exact ih (k + 1) F' (by omega) a (fun n hn t h => b t n (gm_FL_n h))
theorem xb_ff2 (post : SX → Prop) (hP : ∀ F, (∀ n, n < 6 → F n = 0) → ∃ f, wX_findFirst_23 post f_built f_productionCount f_depth f 0 a_ruleOf a_marked a_symbolCount a_symbols a_roles a_derives F a_follow a_textLength a_kindAt a_valueAt a_failsAt a_expectedAt a_roleAt a_scopeAt a_openProduction a_openNext a_openStart a_targetBefore) :
    ∀ d k F, k + d = 6 → (∀ n, n < k → F n = 0) → wX_findFirst_2 post f_built f_productionCount f_depth (d + 1) (nI k) a_ruleOf a_marked a_symbolCount a_symbols a_roles a_derives F a_follow a_textLength a_kindAt a_valueAt a_failsAt a_expectedAt a_roleAt a_scopeAt a_openProduction a_openNext a_openStart a_targetBefore := by
  intro d
  induction d with
  | zero =>
    intro k D hk hs
    rw [wX_findFirst_2]
    dsimp only
    exact br_t (nI_le (a := 6) (by omega) (by omega)) (hP D (fun n hn => hs n (by omega)))
  | succ d ih =>
    intro k D hk hs
    have c1 : (nI k).toNatClampNeg = k := nI_clamp (by omega)
    rw [wX_findFirst_2]
    dsimp only
    rw [c1]
    refine br_f (nI_ge (b := 6) (by omega) (by omega)) ⟨vp_in_nI (by omega) (by omega), nm_e (nm_r (nI_1 k) (ih (k + 1) _ (by omega) (fun n hn => ?_)))⟩
    rw [ba_up]; split
    · rfl
    · exact hs n (by omega)
theorem xb_ff (hG : gm_ok G) (hx : xg_ok G f_productionCount a_ruleOf a_marked a_symbolCount a_symbols a_roles) (post : SX → Prop) (hP : ∀ F, (∀ n, n < 6 → gm_ms (F n) (fun t => t ≤ 10 ∧ gm_FU G t n)) → post (f_built, f_productionCount, f_depth, a_ruleOf, a_marked, a_symbolCount, a_symbols, a_roles, a_derives, F, a_follow, a_textLength, a_kindAt, a_valueAt, a_failsAt, a_expectedAt, a_roleAt, a_scopeAt, a_openProduction, a_openNext, a_openStart, a_targetBefore)) : wpX_findFirst post (f_built, f_productionCount, f_depth, a_ruleOf, a_marked, a_symbolCount, a_symbols, a_roles, a_derives, a_first, a_follow, a_textLength, a_kindAt, a_valueAt, a_failsAt, a_expectedAt, a_roleAt, a_scopeAt, a_openProduction, a_openNext, a_openStart, a_targetBefore) := by
  refine ⟨6 + 1, xb_ff2 post (fun F hF => ⟨67 + 1, xb_ff23 hG hx post hP 67 0 F (by omega) (fun n hn t ht h => ?_) (fun n hn t h => ?_)⟩) 6 0 a_first (by omega) (fun n hn => by omega)⟩
  · rw [hF n hn, b_0] at h
    exact absurd h (by decide)
  · rcases h with ⟨_, h⟩ | ⟨_, h⟩
    · exact h.elim
    · exact h.elim
end
end
section
/-! X's build: FOLLOW and conflicts -/
def gm_cl (G : gm_G) (q : Nat) : Prop := ∃ p, p < q ∧ gm_r G p = gm_r G q ∧ ∃ t, t ≤ 10 ∧ gm_P G t p ∧ gm_P G t q
def gm_cf (G : gm_G) (r : Int32) : Prop := (∃ q, q < gm_n G ∧ gm_cl G q ∧ (∀ q', q' < q → ¬ gm_cl G q') ∧ r = nI q) ∨ ((∀ q, q < gm_n G → ¬ gm_cl G q) ∧ r = -1)
def wf_s (G : gm_G) (W : Nat → Int32) : Prop := ∀ n, n < 6 → ∀ t, t < 32 → bt (W n) t = true → gm_W G t n
def wf_k (W W' : Nat → Int32) : Prop := ∀ n, n < 6 → ∀ t, bt (W n) t = true → bt (W' n) t = true
def wf_p (G : gm_G) (Q : Nat → Nat → Prop) (W : Nat → Int32) (p m : Nat) : Prop := ∀ n t, gm_s G p m = 10 + n → (gm_fq G t p (m + 1) ∨ gm_uq G p (m + 1) ∧ Q t (gm_r G p)) → bt (W n) t = true
theorem gm_fq10 {G : gm_G} {t p m : Nat} (h : gm_fq G t p m) : t < 10 := h.1
section
variable {f_built f_productionCount f_depth : Int32} {a_ruleOf a_marked a_symbolCount a_symbols a_roles a_derives a_first a_follow a_textLength a_kindAt a_valueAt a_failsAt a_expectedAt a_roleAt a_scopeAt a_openProduction a_openNext a_openStart a_targetBefore : Nat → Int32} {G : gm_G}
theorem xb_ft (hG : gm_ok G) (hx : xg_ok G f_productionCount a_ruleOf a_marked a_symbolCount a_symbols a_roles) (hB : ∀ n, n < 6 → gm_ms (a_first n) (fun t => t ≤ 10 ∧ gm_FU G t n)) {p m : Nat} (hp : gm_v G p) (hm : m ≤ gm_l G p) (post : Int32 → Prop) (hP : ∀ r, gm_ms r (fun t => gm_fq G t p m ∨ gm_uq G p m ∧ bt (a_follow (gm_r G p)) t = true) → post r) : wpX_firstThenFollow post (f_built, f_productionCount, f_depth, a_ruleOf, a_marked, a_symbolCount, a_symbols, a_roles, a_derives, a_first, a_follow, a_textLength, a_kindAt, a_valueAt, a_failsAt, a_expectedAt, a_roleAt, a_scopeAt, a_openProduction, a_openNext, a_openStart, a_targetBefore) (nI p) (nI m) := by
  have h15 := gm_v14 hG hp
  have h6 := gm_v6 hG hp
  have c1 : (nI p).toNatClampNeg = p := nI_clamp (by omega)
  have c2 : (nI (gm_r G p)).toNatClampNeg = gm_r G p := nI_clamp (by omega)
  unfold wpX_firstThenFollow
  dsimp only
  refine xb_fr hG hx hB hp hm _ (fun r hr => ?_)
  have hr10 := (hr 10 (by omega)).trans gm_xFU
  rcases Classical.em (gm_uq G p m) with z | z
  · have b10 : bt r 10 = true := hr10.mpr (Or.inr ⟨rfl, z⟩)
    rw [c1, (hx.2 p hp).1, c2]
    refine br_f (by rw [ba_t1024, b10]; decide) ⟨vp_in_nI (by omega) (by omega), vp_in_nI (by omega) (by omega), hP _ (fun t ht => ?_)⟩
    dsimp only
    rw [b_or, b_and, ba_n1025 t ht, Bool.or_eq_true, Bool.and_eq_true, (hr t ht).trans gm_xFU]
    simp only [z, and_true, true_and]
    constructor
    · rintro (⟨h | h, h2⟩ | h)
      · exact Or.inl h
      · simp [h] at h2
      · exact Or.inr h
    · rintro (h | h)
      · exact Or.inl ⟨Or.inl h, by have := gm_fq10 h; simp; omega⟩
      · exact Or.inr h
  · have b10 : bt r 10 = false := by
      cases hh : bt r 10
      · rfl
      · rcases hr10.mp hh with h | h
        · exact absurd (gm_fq10 h) (by omega)
        · exact absurd h.2 z
    refine br_t (by rw [ba_t1024, b10]) (hP _ (fun t ht => ?_))
    dsimp only
    rw [(hr t ht).trans gm_xFU]
    simp [z]
theorem xb_af2 (hG : gm_ok G) (hx : xg_ok G f_productionCount a_ruleOf a_marked a_symbolCount a_symbols a_roles) (hB : ∀ n, n < 6 → gm_ms (a_first n) (fun t => t ≤ 10 ∧ gm_FU G t n)) {Q : Nat → Nat → Prop} (hQ : ∀ t n, Q t n → t < 32) {p : Nat} (hp : p < gm_n G) {W0 : Nat → Int32} (hq : ∀ n, n < 6 → ∀ t, Q t n → bt (W0 n) t = true) (post : SX → Prop) (hP : ∀ W, wf_s G W → wf_k W0 W → (∀ m, m < gm_l G p → wf_p G Q W p m) → post (f_built, f_productionCount, f_depth, a_ruleOf, a_marked, a_symbolCount, a_symbols, a_roles, a_derives, a_first, W, a_textLength, a_kindAt, a_valueAt, a_failsAt, a_expectedAt, a_roleAt, a_scopeAt, a_openProduction, a_openNext, a_openStart, a_targetBefore)) :
    ∀ d m W, m + d = gm_l G p → wf_s G W → wf_k W0 W → (∀ m', m' < m → wf_p G Q W p m') → wX_addFollows_2 post (nI p) f_built f_productionCount f_depth (d + 1) (nI m) a_ruleOf a_marked a_symbolCount a_symbols a_roles a_derives a_first W a_textLength a_kindAt a_valueAt a_failsAt a_expectedAt a_roleAt a_scopeAt a_openProduction a_openNext a_openStart a_targetBefore := by
  have hv : gm_v G p := Or.inl hp
  have hl := gm_vs hG hv
  have h15 := gm_v14 hG hv
  have h6 := gm_v6 hG hv
  obtain ⟨_, _, e3, e4⟩ := hx.2 p hv
  have i1 : vp_in (nI p) 15 := vp_in_nI h15 (by omega)
  have c1 : (nI p).toNatClampNeg = p := nI_clamp (by omega)
  intro d
  induction d with
  | zero =>
    intro m W hm hs hk hI
    rw [wX_addFollows_2]
    dsimp only
    rw [c1, e3]
    exact ⟨i1, br_t (nI_le (by omega) (by omega)) (hP W hs hk (fun m' hm' => hI m' (by omega)))⟩
  | succ d ih =>
    intro m W hm hs hk hI
    have hs16 := hl.2 m (by omega)
    have c2 : (nI (p * 4 + m)).toNatClampNeg = p * 4 + m := nI_clamp (by omega)
    have i2 : vp_in (nI (p * 4 + m)) 60 := vp_in_nI (by omega) (by omega)
    rw [wX_addFollows_2]
    dsimp only
    rw [c1, e3, ba_x4, c2, (e4 m (by omega)).1]
    refine ⟨i1, br_f (nI_ge (by omega) (by omega)) ⟨i2, nm_e ?_⟩⟩
    rcases Nat.lt_or_ge (gm_s G p m) 10 with z | z
    · refine br_t (nI_lt (b := 10) z (by omega)) (nm_r (nI_1 m) (ih (m + 1) W (by omega) hs hk (fun m' hm' => ?_)))
      rcases Nat.lt_or_ge m' m with y | y
      · exact hI m' y
      · have e : m' = m := by omega
        subst e
        intro n t h _; omega
    · have c3 : (nI (gm_s G p m - 10)).toNatClampNeg = gm_s G p m - 10 := nI_clamp (by omega)
      have i3 : vp_in (nI (gm_s G p m - 10)) 6 := vp_in_nI (by omega) (by omega)
      refine br_f (nI_nlt (b := 10) z (by omega)) ?_
      rw [ba_m10 z, c3, nI_1 m]
      refine ⟨i3, xb_ft hG hx hB hv (by omega) _ (fun r hr => ⟨i3, nm_e (nm_e ?_)⟩)⟩
      have hk2 : wf_k W (upd W (gm_s G p m - 10) (W (gm_s G p m - 10) ||| r)) := by
        intro n hn t h
        rw [ba_up]; split
        · next e => subst e; rw [b_or, h]; rfl
        · exact h
      refine ih (m + 1) _ (by omega) (fun n hn t ht h => ?_) (fun n hn t h => hk2 n hn t (hk n hn t h)) (fun m' hm' => ?_)
      · rw [ba_up] at h; split at h
        · next e =>
          subst e
          rw [b_or, Bool.or_eq_true] at h
          rcases h with h | h
          · exact hs _ hn t ht h
          · have q := (hr t ht).mp h
            have hsn : gm_s G p m = 10 + (gm_s G p m - 10) := by omega
            rcases q with q | ⟨q1, q2⟩
            · exact gm_We.mpr ⟨hn, by have := gm_fq10 q; omega, Or.inr ⟨p, m, hp, by omega, hsn, Or.inl q⟩⟩
            · have := hs _ h6 t ht q2
              exact gm_We.mpr ⟨hn, gm_W10 this, Or.inr ⟨p, m, hp, by omega, hsn, Or.inr ⟨q1, this⟩⟩⟩
        · exact hs n hn t ht h
      · rcases Nat.lt_or_ge m' m with y | y
        · intro n t h1 h2
          exact hk2 n (by have := hl.2 m' (by omega); omega) t (hI m' y n t h1 h2)
        · have e : m' = m := by omega
          subst e
          intro n t h1 h2
          have en : gm_s G p m' - 10 = n := by omega
          rw [ba_up, if_pos en.symm, b_or, Bool.or_eq_true]
          have ht : t < 32 := h2.elim (fun q => by have := gm_fq10 q; omega) (fun q => hQ _ _ q.2)
          refine Or.inr ((hr t ht).mpr (h2.elim Or.inl (fun q => Or.inr ⟨q.1, hk _ h6 t (hq _ h6 t q.2)⟩)))
theorem xb_af (hG : gm_ok G) (hx : xg_ok G f_productionCount a_ruleOf a_marked a_symbolCount a_symbols a_roles) (hB : ∀ n, n < 6 → gm_ms (a_first n) (fun t => t ≤ 10 ∧ gm_FU G t n)) {Q : Nat → Nat → Prop} (hQ : ∀ t n, Q t n → t < 32) {p : Nat} (hp : p < gm_n G) (hs : wf_s G a_follow) (hq : ∀ n, n < 6 → ∀ t, Q t n → bt (a_follow n) t = true) (post : SX → Prop) (hP : ∀ W, wf_s G W → wf_k a_follow W → (∀ m, m < gm_l G p → wf_p G Q W p m) → post (f_built, f_productionCount, f_depth, a_ruleOf, a_marked, a_symbolCount, a_symbols, a_roles, a_derives, a_first, W, a_textLength, a_kindAt, a_valueAt, a_failsAt, a_expectedAt, a_roleAt, a_scopeAt, a_openProduction, a_openNext, a_openStart, a_targetBefore)) : wpX_addFollows post (f_built, f_productionCount, f_depth, a_ruleOf, a_marked, a_symbolCount, a_symbols, a_roles, a_derives, a_first, a_follow, a_textLength, a_kindAt, a_valueAt, a_failsAt, a_expectedAt, a_roleAt, a_scopeAt, a_openProduction, a_openNext, a_openStart, a_targetBefore) (nI p) :=
  ⟨gm_l G p + 1, xb_af2 hG hx hB hQ hp hq post hP (gm_l G p) 0 a_follow (by omega) hs (fun _ _ _ h => h) (fun m' h => by omega)⟩
theorem xb_fw40 (hG : gm_ok G) (hx : xg_ok G f_productionCount a_ruleOf a_marked a_symbolCount a_symbols a_roles) (hB : ∀ n, n < 6 → gm_ms (a_first n) (fun t => t ≤ 10 ∧ gm_FU G t n)) {Q : Nat → Nat → Prop} (hQ : ∀ t n, Q t n → t < 32) {W0 : Nat → Int32} (hq : ∀ n, n < 6 → ∀ t, Q t n → bt (W0 n) t = true) (post : SX → Prop) (J32 : _) (x1 : Int32) (hJ : ∀ W, wf_s G W → wf_k W0 W → (∀ p m, p < gm_n G → m < gm_l G p → wf_p G Q W p m) → J32 (x1 + 1) f_built f_productionCount f_depth a_ruleOf a_marked a_symbolCount a_symbols a_roles a_derives a_first W a_textLength a_kindAt a_valueAt a_failsAt a_expectedAt a_roleAt a_scopeAt a_openProduction a_openNext a_openStart a_targetBefore) :
    ∀ d p W, p + d = gm_n G → wf_s G W → wf_k W0 W → (∀ p' m, p' < p → m < gm_l G p' → wf_p G Q W p' m) → wX_findFollow_40 post J32 x1 (d + 1) (nI p) f_built f_productionCount f_depth a_ruleOf a_marked a_symbolCount a_symbols a_roles a_derives a_first W a_textLength a_kindAt a_valueAt a_failsAt a_expectedAt a_roleAt a_scopeAt a_openProduction a_openNext a_openStart a_targetBefore := by
  have h14 := hG.1
  have e0 := hx.1
  intro d
  induction d with
  | zero =>
    intro p W hp hs hk hI
    rw [wX_findFollow_40]
    dsimp only
    rw [e0]
    refine br_t (nI_le (by omega) (by omega)) (nm_e ?_)
    rw [← e0]
    exact hJ W hs hk (fun p' m hp' => hI p' m (by omega))
  | succ d ih =>
    intro p W hp hs hk hI
    rw [wX_findFollow_40]
    dsimp only
    refine br_f (by rw [e0]; exact nI_ge (by omega) (by omega)) (xb_af hG hx hB hQ (by omega) hs (fun n hn t h => hk n hn t (hq n hn t h)) _ (fun W' a b c => nm_r (nI_1 p) ?_))
    refine ih (p + 1) W' (by omega) a (fun n hn t h => b n hn t (hk n hn t h)) (fun p' m hp' hm => ?_)
    rcases Nat.lt_or_ge p' p with y | y
    · intro n t h1 h2
      exact b n (by have := (gm_vs hG (p := p') (Or.inl (by omega))).2 m hm; omega) t (hI p' m y hm n t h1 h2)
    · have e : p' = p := by omega
      subst e
      exact c m hm
theorem xb_fw32 (hG : gm_ok G) (hx : xg_ok G f_productionCount a_ruleOf a_marked a_symbolCount a_symbols a_roles) (hB : ∀ n, n < 6 → gm_ms (a_first n) (fun t => t ≤ 10 ∧ gm_FU G t n)) (post : SX → Prop) (hP : ∀ W, (∀ n, n < 6 → gm_ms (W n) (fun t => gm_W G t n)) → post (f_built, f_productionCount, f_depth, a_ruleOf, a_marked, a_symbolCount, a_symbols, a_roles, a_derives, a_first, W, a_textLength, a_kindAt, a_valueAt, a_failsAt, a_expectedAt, a_roleAt, a_scopeAt, a_openProduction, a_openNext, a_openStart, a_targetBefore)) :
    ∀ d k W, k + d = 67 → wf_s G W → bt (W 0) 10 = true → (∀ n, n < 6 → ∀ t, fx_L (gm_wF G t) k n → bt (W n) t = true) → wX_findFollow_32 post (d + 1) (nI k) f_built f_productionCount f_depth a_ruleOf a_marked a_symbolCount a_symbols a_roles a_derives a_first W a_textLength a_kindAt a_valueAt a_failsAt a_expectedAt a_roleAt a_scopeAt a_openProduction a_openNext a_openStart a_targetBefore := by
  intro d
  induction d with
  | zero =>
    intro k W hk hs h0 hq
    rw [wX_findFollow_32]
    dsimp only
    refine br_t (nI_le (a := 67) (by omega) (by omega)) (hP W (fun n hn t ht => ⟨fun h => hs n hn t ht h, fun h => hq n hn t (fx_le (gm_wM G t) (by omega) (gm_W6 h))⟩))
  | succ d ih =>
    intro k W hk hs h0 hq
    rw [wX_findFollow_32]
    dsimp only
    refine br_f (nI_ge (b := 67) (by omega) (by omega)) ⟨gm_n G + 1, xb_fw40 (Q := fun t n => fx_L (gm_wF G t) k n) hG hx hB (fun t n h => ?_) hq post _ (nI k) (fun W' a b c => ?_) (gm_n G) 0 W (by omega) hs (fun _ _ _ h => h) (fun p' m hp' => by omega)⟩
    · have := gm_W10 (G := G) (t := t) (n := n) ⟨k, h⟩; omega
    · rw [nI_1]
      refine ih (k + 1) W' (by omega) a (b 0 (by omega) 10 h0) (fun n hn t h => ?_)
      rcases h with ⟨_, _, ⟨e1, e2⟩ | ⟨p, m, h1, h2, h3, h4⟩⟩
      · subst e1 e2
        exact b 0 (by omega) 10 h0
      · exact c p m h1 h2 n t h3 h4
theorem xb_fw2 (post : SX → Prop) (hP : ∀ W, (∀ n, n < 6 → W n = 0) → ∃ f, wX_findFollow_32 post f 0 f_built f_productionCount f_depth a_ruleOf a_marked a_symbolCount a_symbols a_roles a_derives a_first (upd W 0 1024) a_textLength a_kindAt a_valueAt a_failsAt a_expectedAt a_roleAt a_scopeAt a_openProduction a_openNext a_openStart a_targetBefore) :
    ∀ d k W, k + d = 6 → (∀ n, n < k → W n = 0) → wX_findFollow_2 post f_built f_productionCount f_depth (d + 1) (nI k) a_ruleOf a_marked a_symbolCount a_symbols a_roles a_derives a_first W a_textLength a_kindAt a_valueAt a_failsAt a_expectedAt a_roleAt a_scopeAt a_openProduction a_openNext a_openStart a_targetBefore := by
  intro d
  induction d with
  | zero =>
    intro k D hk hs
    rw [wX_findFollow_2]
    dsimp only
    exact br_t (nI_le (a := 6) (by omega) (by omega)) (nm_e (hP D (fun n hn => hs n (by omega))))
  | succ d ih =>
    intro k D hk hs
    have c1 : (nI k).toNatClampNeg = k := nI_clamp (by omega)
    rw [wX_findFollow_2]
    dsimp only
    rw [c1]
    refine br_f (nI_ge (b := 6) (by omega) (by omega)) ⟨vp_in_nI (by omega) (by omega), nm_e (nm_r (nI_1 k) (ih (k + 1) _ (by omega) (fun n hn => ?_)))⟩
    rw [ba_up]; split
    · rfl
    · exact hs n (by omega)
theorem xb_fw (hG : gm_ok G) (hx : xg_ok G f_productionCount a_ruleOf a_marked a_symbolCount a_symbols a_roles) (hB : ∀ n, n < 6 → gm_ms (a_first n) (fun t => t ≤ 10 ∧ gm_FU G t n)) (post : SX → Prop) (hP : ∀ W, (∀ n, n < 6 → gm_ms (W n) (fun t => gm_W G t n)) → post (f_built, f_productionCount, f_depth, a_ruleOf, a_marked, a_symbolCount, a_symbols, a_roles, a_derives, a_first, W, a_textLength, a_kindAt, a_valueAt, a_failsAt, a_expectedAt, a_roleAt, a_scopeAt, a_openProduction, a_openNext, a_openStart, a_targetBefore)) : wpX_findFollow post (f_built, f_productionCount, f_depth, a_ruleOf, a_marked, a_symbolCount, a_symbols, a_roles, a_derives, a_first, a_follow, a_textLength, a_kindAt, a_valueAt, a_failsAt, a_expectedAt, a_roleAt, a_scopeAt, a_openProduction, a_openNext, a_openStart, a_targetBefore) := by
  refine ⟨6 + 1, xb_fw2 post (fun W hW => ⟨67 + 1, xb_fw32 hG hx hB post hP 67 0 _ (by omega) (fun n hn t ht h => ?_) ?_ (fun n hn t h => h.elim)⟩) 6 0 a_follow (by omega) (fun n hn => by omega)⟩
  · rw [ba_up] at h; split at h
    · next e =>
      subst e
      rw [ba_1024 t ht] at h
      have e : t = 10 := by simpa using h
      subst e
      exact gm_We.mpr ⟨by omega, by omega, Or.inl ⟨rfl, rfl⟩⟩
    · rw [hW n hn, b_0] at h
      exact absurd h (by decide)
  · rw [ba_up, if_pos rfl]
    exact ba_1024 10 (by omega)
/-! conflicts -/
theorem xb_pr (hG : gm_ok G) (hx : xg_ok G f_productionCount a_ruleOf a_marked a_symbolCount a_symbols a_roles) (hB : ∀ n, n < 6 → gm_ms (a_first n) (fun t => t ≤ 10 ∧ gm_FU G t n)) (hW : ∀ n, n < 6 → gm_ms (a_follow n) (fun t => gm_W G t n)) {p : Nat} (hp : p < gm_n G) (post : Int32 → Prop) (hP : ∀ r, gm_ms r (fun t => gm_P G t p) → post r) : wpX_firstThenFollow post (f_built, f_productionCount, f_depth, a_ruleOf, a_marked, a_symbolCount, a_symbols, a_roles, a_derives, a_first, a_follow, a_textLength, a_kindAt, a_valueAt, a_failsAt, a_expectedAt, a_roleAt, a_scopeAt, a_openProduction, a_openNext, a_openStart, a_targetBefore) (nI p) 0 := by
  refine xb_ft (m := 0) hG hx hB (Or.inl hp) (by omega) post (fun r hr => hP r (fun t ht => ?_))
  rw [hr t ht]
  dsimp only
  rw [hW _ (gm_v6 hG (Or.inl hp)) t ht]
  rfl
theorem gm_Pan {x y : Int32} {p q : Nat} (hx : gm_ms x (fun t => gm_P G t p)) (hy : gm_ms y (fun t => gm_P G t q)) : (x &&& y) = 0 ↔ ¬ ∃ t, t ≤ 10 ∧ gm_P G t p ∧ gm_P G t q := by
  rw [ba_and0]
  constructor
  · rintro h ⟨t, a, b, c⟩
    exact h t (by omega) ⟨(hx t (by omega)).mpr b, (hy t (by omega)).mpr c⟩
  · intro h t ht ⟨a, b⟩
    have a := (hx t ht).mp a
    have b := (hy t ht).mp b
    refine h ⟨t, ?_, a, b⟩
    rcases a with a | a
    · have := a.1; omega
    · exact gm_W10 a.2
theorem xb_ce9 (hG : gm_ok G) (hx : xg_ok G f_productionCount a_ruleOf a_marked a_symbolCount a_symbols a_roles) (hB : ∀ n, n < 6 → gm_ms (a_first n) (fun t => t ≤ 10 ∧ gm_FU G t n)) (hW : ∀ n, n < 6 → gm_ms (a_follow n) (fun t => gm_W G t n)) {q : Nat} (hq : q < gm_n G) {x2 : Int32} (hx2 : gm_ms x2 (fun t => gm_P G t q)) (post : Int32 → Prop) (h1 : gm_cl G q → post 1) (h0 : ¬ gm_cl G q → post 0) :
    ∀ d p, p + d = q → (∀ p', p' < p → ¬ (gm_r G p' = gm_r G q ∧ ∃ t, t ≤ 10 ∧ gm_P G t p' ∧ gm_P G t q)) → wX_clashesWithEarlier_9 post (nI q) x2 f_built f_productionCount f_depth a_ruleOf a_marked a_symbolCount a_symbols a_roles a_derives a_first a_follow a_textLength a_kindAt a_valueAt a_failsAt a_expectedAt a_roleAt a_scopeAt a_openProduction a_openNext a_openStart a_targetBefore (d + 1) (nI p) := by
  have h14 := hG.1
  have hvq : gm_v G q := Or.inl hq
  have c1 : (nI q).toNatClampNeg = q := nI_clamp (by omega)
  intro d
  induction d with
  | zero =>
    intro p hp hI
    rw [wX_clashesWithEarlier_9]
    dsimp only
    exact br_t (nI_le (by omega) (by omega)) (h0 (fun ⟨p', a, b⟩ => hI p' (by omega) b))
  | succ d ih =>
    intro p hp hI
    have hv : gm_v G p := Or.inl (by omega)
    have h6 := gm_v6 hG hv
    have h6' := gm_v6 hG hvq
    have c2 : (nI p).toNatClampNeg = p := nI_clamp (by omega)
    have nx : ¬ (gm_r G p = gm_r G q ∧ ∃ t, t ≤ 10 ∧ gm_P G t p ∧ gm_P G t q) → wX_clashesWithEarlier_9 post (nI q) x2 f_built f_productionCount f_depth a_ruleOf a_marked a_symbolCount a_symbols a_roles a_derives a_first a_follow a_textLength a_kindAt a_valueAt a_failsAt a_expectedAt a_roleAt a_scopeAt a_openProduction a_openNext a_openStart a_targetBefore (d + 1) (nI (p + 1)) := fun h => ih (p + 1) (by omega) (fun p' hp' => by
      rcases Nat.lt_or_ge p' p with y | y
      · exact hI p' y
      · have e : p' = p := by omega
        subst e; exact h)
    rw [wX_clashesWithEarlier_9]
    dsimp only
    rw [c1, c2, (hx.2 p hv).1, (hx.2 q hvq).1]
    refine br_f (nI_ge (by omega) (by omega)) ⟨vp_in_nI (by omega) (by omega), vp_in_nI (by omega) (by omega), pk_eq (gm_r G p) (gm_r G q) (fun h => ?_) (fun h => nm_r (nI_1 p) (nx (fun z => h z.1)))⟩
    refine xb_pr hG hx hB hW (by omega) _ (fun r hr => ?_)
    rcases Classical.em (∃ t, t ≤ 10 ∧ gm_P G t q ∧ gm_P G t p) with z | z
    · refine br_f (fun y => (gm_Pan hx2 hr).mp y z) (h1 ⟨p, by omega, h, ?_⟩)
      obtain ⟨t, a, b, c⟩ := z
      exact ⟨t, a, c, b⟩
    · exact br_t ((gm_Pan hx2 hr).mpr z) (nm_r (nI_1 p) (nx (fun ⟨_, t, a, b, c⟩ => z ⟨t, a, c, b⟩)))
theorem xb_ce (hG : gm_ok G) (hx : xg_ok G f_productionCount a_ruleOf a_marked a_symbolCount a_symbols a_roles) (hB : ∀ n, n < 6 → gm_ms (a_first n) (fun t => t ≤ 10 ∧ gm_FU G t n)) (hW : ∀ n, n < 6 → gm_ms (a_follow n) (fun t => gm_W G t n)) {q : Nat} (hq : q < gm_n G) (post : Int32 → Prop) (h1 : gm_cl G q → post 1) (h0 : ¬ gm_cl G q → post 0) : wpX_clashesWithEarlier post (f_built, f_productionCount, f_depth, a_ruleOf, a_marked, a_symbolCount, a_symbols, a_roles, a_derives, a_first, a_follow, a_textLength, a_kindAt, a_valueAt, a_failsAt, a_expectedAt, a_roleAt, a_scopeAt, a_openProduction, a_openNext, a_openStart, a_targetBefore) (nI q) := by
  unfold wpX_clashesWithEarlier
  dsimp only
  exact xb_pr hG hx hB hW hq _ (fun r hr => ⟨q + 1, xb_ce9 hG hx hB hW hq hr post h1 h0 q 0 (by omega) (fun p' h => by omega)⟩)
theorem xb_lc2 (hG : gm_ok G) (hx : xg_ok G f_productionCount a_ruleOf a_marked a_symbolCount a_symbols a_roles) (hB : ∀ n, n < 6 → gm_ms (a_first n) (fun t => t ≤ 10 ∧ gm_FU G t n)) (hW : ∀ n, n < 6 → gm_ms (a_follow n) (fun t => gm_W G t n)) (post : Int32 → Prop) (hP : ∀ r, gm_cf G r → post r) :
    ∀ d q, q + d = gm_n G → (∀ q', q' < q → ¬ gm_cl G q') → wX_leastConflict_2 post f_built f_productionCount f_depth a_ruleOf a_marked a_symbolCount a_symbols a_roles a_derives a_first a_follow a_textLength a_kindAt a_valueAt a_failsAt a_expectedAt a_roleAt a_scopeAt a_openProduction a_openNext a_openStart a_targetBefore (d + 1) (nI q) := by
  have h14 := hG.1
  have e0 := hx.1
  intro d
  induction d with
  | zero =>
    intro q hq hI
    rw [wX_leastConflict_2]
    dsimp only
    exact br_t (by rw [e0]; exact nI_le (by omega) (by omega)) (hP _ (Or.inr ⟨fun q' hq' => hI q' (by omega), rfl⟩))
  | succ d ih =>
    intro q hq hI
    rw [wX_leastConflict_2]
    dsimp only
    refine br_f (by rw [e0]; exact nI_ge (by omega) (by omega)) (xb_ce hG hx hB hW (by omega) _ (fun h => br_f (by decide) (hP _ (Or.inl ⟨q, by omega, h, hI, rfl⟩))) (fun h => br_t rfl (nm_r (nI_1 q) (ih (q + 1) (by omega) (fun q' hq' => ?_)))))
    rcases Nat.lt_or_ge q' q with y | y
    · exact hI q' y
    · have e : q' = q := by omega
      subst e; exact h
theorem xb_lc (hG : gm_ok G) (hx : xg_ok G f_productionCount a_ruleOf a_marked a_symbolCount a_symbols a_roles) (hB : ∀ n, n < 6 → gm_ms (a_first n) (fun t => t ≤ 10 ∧ gm_FU G t n)) (hW : ∀ n, n < 6 → gm_ms (a_follow n) (fun t => gm_W G t n)) (post : Int32 → Prop) (hP : ∀ r, gm_cf G r → post r) : wpX_leastConflict post (f_built, f_productionCount, f_depth, a_ruleOf, a_marked, a_symbolCount, a_symbols, a_roles, a_derives, a_first, a_follow, a_textLength, a_kindAt, a_valueAt, a_failsAt, a_expectedAt, a_roleAt, a_scopeAt, a_openProduction, a_openNext, a_openStart, a_targetBefore) :=
  ⟨gm_n G + 1, xb_lc2 hG hx hB hW post hP (gm_n G) 0 (by omega) (fun q' h => by omega)⟩
end
end
section
/-! the stack of a predictive parse, pure -/
theorem dr_lt10s {G : gm_G} {R : Nat → Nat → Nat → Prop} {w : Nat → Nat} {p : Nat} (hR : ∀ n i j x, R n i j → i ≤ x → x < j → w x < 10) : ∀ c m i j x, dr_sg G R w p c m i j → i ≤ x → x < j → w x < 10
  | 0, _, _, _, _, h, a, b => by have h : _ = _ := h; omega
  | c + 1, m, i, j, x, ⟨k, h, h'⟩, a, b => by
    rcases Nat.lt_or_ge x k with z | z
    · rcases h with ⟨u, v, e⟩ | ⟨u, v⟩
      · have e2 : x = i := by omega
        subst e2; omega
      · exact hR _ _ _ x v a z
    · exact dr_lt10s hR c (m + 1) k j x h' z b
theorem dr_lt10L {G : gm_G} {w : Nat → Nat} : ∀ k n i j x, dr_L G w k n i j → i ≤ x → x < j → w x < 10
  | 0, _, _, _, _, h, _, _ => h.elim
  | k + 1, _, i, j, x, ⟨_, _, _, h⟩, a, b => dr_lt10s (dr_lt10L k) _ _ i j x h a b
theorem dr_lt10 {G : gm_G} {w : Nat → Nat} {n i j x : Nat} (h : dr_D G w n i j) (a : i ≤ x) (b : x < j) : w x < 10 := by
  obtain ⟨k, h⟩ := h
  exact dr_lt10L k n i j x h a b
theorem dr_S10 {G : gm_G} {w : Nat → Nat} {p c m i j x : Nat} (h : dr_S G w p c m i j) (a : i ≤ x) (b : x < j) : w x < 10 := dr_lt10s (fun _ _ _ _ z => dr_lt10 z) c m i j x h a b
theorem ll_dj {G : gm_G} (hG : gm_gd G) {t : Nat} : ∀ k n, fx_L (gm_fF G t) k n → gm_U G n → gm_W G t n → False
  | 0, _, h, _, _ => h
  | k + 1, n, ⟨h6, ht, p, hp, hr, m', a, b, c, d⟩, hu, hw => by
    have hfq : gm_fq G t p 0 := ⟨ht, m', a, b, c, d.elim Or.inl (fun q => Or.inr ⟨q.1, k, q.2⟩)⟩
    obtain ⟨_, q, hq, hrq, hqn⟩ := gm_Ue.mp hu
    have e : p = q := ll_un hG hp hq (by omega) (by omega) (Or.inl hfq) (Or.inr ⟨hqn, by rw [hrq]; exact hw⟩)
    subst e
    have hm := hqn m' (by omega) b
    rcases d with d | d
    · omega
    · have h16 := ((hG.1.2.1 p hp).2.2.2 m' b).1
      refine ll_dj hG k _ d.2 hm.2 (gm_We.mpr ⟨by omega, by omega, Or.inr ⟨p, m', hp, b, by omega, Or.inr ⟨fun x x1 x2 => hqn x (by omega) x2, by rw [hr]; exact hw⟩⟩⟩)
/-- what the open productions below d still lack, over [i, j) -/
def st_R (G : gm_G) (w : Nat → Nat) (P X : Nat → Nat) : Nat → Nat → Nat → Prop
  | 0, i, j => i = j
  | d + 1, i, j => ∃ k, dr_S G w (P d) (gm_l G (P d) - X d) (X d) i k ∧ st_R G w P X d k j
def st_ok (G : gm_G) (P X : Nat → Nat) (d : Nat) : Prop := P 0 = 14 ∧ ∀ a, a < d → gm_v G (P a) ∧ X a ≤ gm_l G (P a) ∧ (0 < a → P a < gm_n G ∧ 1 ≤ X (a - 1) ∧ gm_s G (P (a - 1)) (X (a - 1) - 1) = 10 + gm_r G (P a))
theorem st_cg {G : gm_G} {w : Nat → Nat} {P X P' X' : Nat → Nat} : ∀ d i j, (∀ a, a < d → P a = P' a ∧ X a = X' a) → st_R G w P X d i j → st_R G w P' X' d i j
  | 0, _, _, _, h => h
  | d + 1, i, j, e, ⟨k, a, b⟩ => ⟨k, by rw [← (e d (by omega)).1, ← (e d (by omega)).2]; exact a, st_cg d k j (fun a ha => e a (by omega)) b⟩
theorem st_le {G : gm_G} {w : Nat → Nat} {P X : Nat → Nat} : ∀ d i j, st_R G w P X d i j → i ≤ j
  | 0, _, _, h => Nat.le_of_eq h
  | d + 1, _, j, ⟨k, a, b⟩ => Nat.le_trans (dr_S_le a) (st_le d k j b)
theorem st_W {G : gm_G} (hG : gm_ok G) {w : Nat → Nat} {P X : Nat → Nat} {d : Nat} (ho : st_ok G P X d) {j : Nat} (hj : w j = 10) : ∀ a k, a < d → st_R G w P X a k j → gm_W G (w k) (gm_r G (P a))
  | 0, k, _, h => by
    have h : k = j := h
    subst h
    rw [hj, ho.1, hG.2.2.1]
    exact gm_We.mpr ⟨by omega, by omega, Or.inl ⟨rfl, rfl⟩⟩
  | a + 1, k, ha, ⟨q, x, y⟩ => by
    have f := st_W hG ho hj a q (by omega) y
    obtain ⟨v, l, _⟩ := ho.2 a (by omega)
    obtain ⟨_, _, h⟩ := ho.2 (a + 1) ha
    obtain ⟨_, h1, h2⟩ := h (by omega)
    rw [Nat.add_sub_cancel] at h1 h2
    refine ll_F hG (m := X a - 1) v (by omega) h2 ?_ f
    rw [show X a - 1 + 1 = X a from by omega]
    exact x
theorem st_w {G : gm_G} {w w' : Nat → Nat} {P X : Nat → Nat} : ∀ d i j, (∀ x, i ≤ x → x < j → w x = w' x) → st_R G w P X d i j → st_R G w' P X d i j
  | 0, _, _, _, h => h
  | d + 1, i, j, e, ⟨k, a, b⟩ => by
    have l1 := dr_S_le a
    have l2 := st_le d k j b
    exact ⟨k, dr_S_w (fun x x1 x2 => e x x1 (by omega)) a, st_w d k j (fun x x1 x2 => e x (by omega) x2) b⟩
/-- productive: the rest of the stack derives something from anywhere -/
theorem st_pr {G : gm_G} (hG : gm_gd G) {P X : Nat → Nat} : ∀ d, (∀ a, a < d → gm_v G (P a)) → ∀ (w : Nat → Nat) (i : Nat), ∃ w' j, (∀ x, x < i → w' x = w x) ∧ i ≤ j ∧ w' j = 10 ∧ st_R G w' P X d i j
  | 0, _, w, i => ⟨fun x => if x = i then 10 else w x, i, fun x hx => if_neg (by omega), Nat.le_refl _, if_pos rfl, rfl⟩
  | d + 1, hv, w, i => by
    obtain ⟨w1, k, a1, l1, s1⟩ := dr_prw hG (hv d (by omega)) (X d) w i
    obtain ⟨w2, j, a2, l2, e2, s2⟩ := st_pr hG d (fun a ha => hv a (by omega)) w1 k
    exact ⟨w2, j, fun x hx => (a2 x (by omega)).trans (a1 x hx), by omega, e2, k, dr_S_w (fun x _ x2 => (a2 x x2).symm) s1, s2⟩
/-- FIRST of the rest of the stack -/
def st_q (G : gm_G) (P X : Nat → Nat) : Nat → Nat → Prop
  | 0, t => t = 10
  | d + 1, t => gm_fq G t (P d) (X d) ∨ (gm_uq G (P d) (X d) ∧ st_q G P X d t)
theorem st_qw {G : gm_G} (hG : gm_gd G) {P X : Nat → Nat} {t : Nat} : ∀ d, (∀ a, a < d → gm_v G (P a) ∧ X a ≤ gm_l G (P a)) → st_q G P X d t → ∀ (w : Nat → Nat) (i : Nat), ∃ w' j, (∀ x, x < i → w' x = w x) ∧ w' i = t ∧ i ≤ j ∧ w' j = 10 ∧ st_R G w' P X d i j
  | 0, _, h, w, i => ⟨fun x => if x = i then 10 else w x, i, fun x hx => if_neg (by omega), by rw [show t = 10 from h]; exact if_pos rfl, Nat.le_refl _, if_pos rfl, rfl⟩
  | d + 1, hv, h, w, i => by
    rcases h with h | ⟨h, h'⟩
    · obtain ⟨w1, k, a1, b1, l1, s1⟩ := dr_fqw hG (hv d (by omega)).1 h w i
      obtain ⟨w2, j, a2, l2, e2, s2⟩ := st_pr (X := X) hG d (fun a ha => (hv a (by omega)).1) w1 k
      exact ⟨w2, j, fun x hx => (a2 x (by omega)).trans (a1 x hx), (a2 i l1).trans b1, by omega, e2, k, dr_S_w (fun x _ x2 => (a2 x x2).symm) s1, s2⟩
    · obtain ⟨w', j, a, b, c, e, f⟩ := st_qw hG d (fun a ha => hv a (by omega)) h' w i
      refine ⟨w', j, a, b, c, e, i, dr_uq i ?_, f⟩
      have := (hv d (by omega)).2
      rw [show X d + (gm_l G (P d) - X d) = gm_l G (P d) from by omega]
      exact h
theorem st_wq {G : gm_G} (hG : gm_ok G) {w : Nat → Nat} {P X : Nat → Nat} {j : Nat} (hj : w j = 10) : ∀ d i, (∀ a, a < d → X a ≤ gm_l G (P a)) → st_R G w P X d i j → st_q G P X d (w i)
  | 0, i, _, h => by rw [show i = j from h]; exact hj
  | d + 1, i, hv, ⟨k, a, b⟩ => by
    have l := dr_S_le a
    have hl := hv d (by omega)
    rcases Nat.lt_or_ge i k with z | z
    · exact Or.inl (dr_fq hG (by omega) a z)
    · have e : k = i := by omega
      subst e
      have q := dr_qu hG a
      rw [show X d + (gm_l G (P d) - X d) = gm_l G (P d) from by omega] at q
      exact Or.inr ⟨q, st_wq hG hj d k (fun a ha => hv a (by omega)) b⟩
/-! what may come, what is viable -/
def px_e (G : gm_G) (w : Nat → Nat) (k t : Nat) : Prop := ∃ w' j, (∀ x, x < k → w' x = w x) ∧ w' k = t ∧ k ≤ j ∧ w' j = 10 ∧ dr_D G w' 0 0 j
def st_I (G : gm_G) (w : Nat → Nat) (b i : Nat) (P X : Nat → Nat) (d : Nat) : Prop := ∀ w' j, (∀ x, x < b → w' x = w x) → i ≤ j → w' j = 10 → (dr_D G w' 0 0 j ↔ st_R G w' P X d i j)
def st_V (G : gm_G) (w : Nat → Nat) (b i : Nat) (P X : Nat → Nat) (d : Nat) : Prop := ∃ w' j, (∀ x, x < b → w' x = w x) ∧ i ≤ j ∧ w' j = 10 ∧ st_R G w' P X d i j
theorem st_mask {G : gm_G} (hG : gm_gd G) {w : Nat → Nat} {P X : Nat → Nat} {d i : Nat} (ho : st_ok G P X d) (hI : st_I G w i i P X d) (t : Nat) : st_q G P X d t ↔ px_e G w i t := by
  constructor
  · intro h
    obtain ⟨w', j, a, b, c, e, f⟩ := st_qw hG d (fun a ha => ⟨(ho.2 a ha).1, (ho.2 a ha).2.1⟩) h w i
    exact ⟨w', j, a, b, c, e, (hI w' j a c e).mpr f⟩
  · intro ⟨w', j, a, b, c, e, f⟩
    rw [← b]
    exact st_wq hG.1 e d i (fun a ha => (ho.2 a ha).2.1) ((hI w' j a c e).mp f)
theorem st_V1 {G : gm_G} {w : Nat → Nat} {P X : Nat → Nat} {d i : Nat} (hI : st_I G w i i P X d) (h : px_e G w i (w i)) : st_V G w (i + 1) i P X d := by
  obtain ⟨w', j, a, b, c, e, f⟩ := h
  refine ⟨w', j, fun x hx => ?_, c, e, (hI w' j a c e).mp f⟩
  rcases Nat.lt_or_ge x i with z | z
  · exact a x z
  · have e : x = i := by omega
    subst e; exact b
def ud (f : Nat → Nat) (k v : Nat) : Nat → Nat := fun a => if a = k then v else f a
theorem ud_s {f : Nat → Nat} {k v : Nat} : ud f k v k = v := if_pos rfl
theorem ud_n {f : Nat → Nat} {k v a : Nat} (h : a ≠ k) : ud f k v a = f a := if_neg h
section
variable {G : gm_G} {w : Nat → Nat} {P X : Nat → Nat} {d i b : Nat}
/-! close -/
theorem st_cR {w : Nat → Nat} {j : Nat} (h : X d = gm_l G (P d)) : st_R G w P X (d + 1) i j ↔ st_R G w P X d i j := by
  constructor
  · intro ⟨k, x, y⟩
    rw [h, Nat.sub_self] at x
    have x : i = k := x
    rw [x]; exact y
  · intro y
    exact ⟨i, by rw [h, Nat.sub_self]; exact rfl, y⟩
theorem st_cI (h : X d = gm_l G (P d)) (hI : st_I G w b i P X (d + 1)) : st_I G w b i P X d := fun w' j a c e => (hI w' j a c e).trans (st_cR h)
theorem st_cV (h : X d = gm_l G (P d)) (hV : st_V G w b i P X (d + 1)) : st_V G w b i P X d := by
  obtain ⟨w', j, a, c, e, f⟩ := hV
  exact ⟨w', j, a, c, e, (st_cR h).mp f⟩
theorem st_cO (ho : st_ok G P X (d + 1)) : st_ok G P X d := ⟨ho.1, fun a ha => ho.2 a (by omega)⟩
/-! a symbol of the top -/
theorem st_top {w : Nat → Nat} {j : Nat} (hx : X d < gm_l G (P d)) : st_R G w P X (d + 1) i j ↔ ∃ k, dr_sy (dr_D G w) w (gm_s G (P d) (X d)) i k ∧ st_R G w P (ud X d (X d + 1)) (d + 1) k j := by
  have e : gm_l G (P d) - X d = (gm_l G (P d) - (X d + 1)) + 1 := by omega
  constructor
  · intro ⟨k, x, y⟩
    rw [e] at x
    obtain ⟨q, x1, x2⟩ := x
    exact ⟨q, x1, k, by rw [ud_s]; exact x2, st_cg d k j (fun a ha => ⟨rfl, (ud_n (by omega)).symm⟩) y⟩
  · intro ⟨q, x1, k, x2, y⟩
    rw [ud_s] at x2
    exact ⟨k, by rw [e]; exact ⟨q, x1, x2⟩, st_cg d k j (fun a ha => ⟨rfl, ud_n (by omega)⟩) y⟩
theorem st_oS (ho : st_ok G P X (d + 1)) (hx : X d < gm_l G (P d)) : st_ok G P (ud X d (X d + 1)) (d + 1) := by
  refine ⟨ho.1, fun a ha => ?_⟩
  obtain ⟨h1, h2, h3⟩ := ho.2 a ha
  refine ⟨h1, ?_, fun h0 => ?_⟩
  · rcases Classical.em (a = d) with e | e
    · subst e; rw [ud_s]; omega
    · rw [ud_n e]; exact h2
  · obtain ⟨q1, q2, q3⟩ := h3 h0
    rw [ud_n (show a - 1 ≠ d by omega)]
    exact ⟨q1, q2, q3⟩
/-! a terminal -/
theorem st_tI (hV : st_V G w (i + 1) i P X (d + 1)) (hx : X d < gm_l G (P d)) (hs : gm_s G (P d) (X d) < 10) (hI : st_I G w (i + 1) i P X (d + 1)) : w i = gm_s G (P d) (X d) ∧ st_I G w (i + 1) (i + 1) P (ud X d (X d + 1)) (d + 1) := by
  have hw : w i = gm_s G (P d) (X d) := by
    obtain ⟨w', j, a, c, e, f⟩ := hV
    obtain ⟨k, x, _⟩ := (st_top hx).mp f
    rcases x with ⟨_, x, _⟩ | ⟨x, _⟩
    · rw [← a i (by omega)]; exact x
    · omega
  refine ⟨hw, fun w' j a c e => (hI w' j a (by omega) e).trans ((st_top hx).trans ?_)⟩
  constructor
  · intro ⟨k, x, y⟩
    rcases x with ⟨_, _, x⟩ | ⟨x, _⟩
    · rw [← x]; exact y
    · omega
  · intro y
    exact ⟨i + 1, Or.inl ⟨hs, by rw [a i (by omega)]; exact hw, rfl⟩, y⟩
/-! a rule that cannot begin with the token -/
theorem st_kR (hG : gm_ok G) {w : Nat → Nat} {j : Nat} (hx : X d < gm_l G (P d)) (hs : 10 ≤ gm_s G (P d) (X d)) (hn : ¬ gm_F G (w i) (gm_s G (P d) (X d) - 10)) (h : st_R G w P X (d + 1) i j) : gm_U G (gm_s G (P d) (X d) - 10) ∧ st_R G w P (ud X d (X d + 1)) (d + 1) i j := by
  obtain ⟨k, x, y⟩ := (st_top hx).mp h
  rcases x with ⟨x, _⟩ | ⟨_, x⟩
  · omega
  · have l := dr_D_le _ _ _ x
    rcases Nat.lt_or_ge i k with z | z
    · exact absurd (dr_F hG x z).2 hn
    · have e : k = i := by omega
      subst e
      exact ⟨dr_U hG x, y⟩
theorem st_kI (hG : gm_ok G) (hV : st_V G w (i + 1) i P X (d + 1)) (hx : X d < gm_l G (P d)) (hs : 10 ≤ gm_s G (P d) (X d)) (hn : ¬ gm_F G (w i) (gm_s G (P d) (X d) - 10)) (hI : st_I G w (i + 1) i P X (d + 1)) : gm_U G (gm_s G (P d) (X d) - 10) ∧ st_I G w (i + 1) i P (ud X d (X d + 1)) (d + 1) ∧ st_V G w (i + 1) i P (ud X d (X d + 1)) (d + 1) := by
  obtain ⟨w1, j1, a1, c1, e1, f1⟩ := hV
  have z1 := st_kR hG hx hs (by rw [a1 i (by omega)]; exact hn) f1
  refine ⟨z1.1, fun w' j a c e => (hI w' j a c e).trans ⟨fun f => (st_kR hG hx hs (by rw [a i (by omega)]; exact hn) f).2, fun f => (st_top hx).mpr ⟨i, Or.inr ⟨hs, dr_u i z1.1⟩, f⟩⟩, w1, j1, a1, c1, e1, z1.2⟩
/-! a rule that can: its production is opened -/
theorem st_eO (ho : st_ok G P X (d + 1)) (hx : X d < gm_l G (P d)) {p : Nat} (hp : p < gm_n G) (hr : gm_s G (P d) (X d) = 10 + gm_r G p) : st_ok G (ud P (d + 1) p) (ud (ud X d (X d + 1)) (d + 1) 0) (d + 2) := by
  have h := st_oS ho hx
  refine ⟨by rw [ud_n (by omega)]; exact h.1, fun a ha => ?_⟩
  rcases Classical.em (a = d + 1) with e | e
  · subst e
    rw [ud_s, ud_s]
    refine ⟨Or.inl hp, by omega, fun _ => ⟨hp, ?_, ?_⟩⟩
    · rw [ud_n (by omega), Nat.add_sub_cancel, ud_s]; omega
    · rw [ud_n (by omega), ud_n (by omega), Nat.add_sub_cancel, ud_s, Nat.add_sub_cancel]; exact hr
  · obtain ⟨h1, h2, h3⟩ := h.2 a (by omega)
    rw [ud_n e, ud_n e]
    refine ⟨h1, h2, fun h0 => ?_⟩
    rw [ud_n (show a - 1 ≠ d + 1 by omega), ud_n (show a - 1 ≠ d + 1 by omega)]
    exact h3 h0
theorem st_eR {w : Nat → Nat} {j : Nat} {p : Nat} : st_R G w (ud P (d + 1) p) (ud (ud X d (X d + 1)) (d + 1) 0) (d + 2) i j ↔ ∃ k, dr_S G w p (gm_l G p) 0 i k ∧ st_R G w P (ud X d (X d + 1)) (d + 1) k j := by
  constructor
  · intro ⟨k, x, y⟩
    rw [ud_s, ud_s] at x
    exact ⟨k, x, st_cg (d + 1) k j (fun a ha => ⟨ud_n (by omega), ud_n (by omega)⟩) y⟩
  · intro ⟨k, x, y⟩
    exact ⟨k, by rw [ud_s, ud_s]; exact x, st_cg (d + 1) k j (fun a ha => ⟨(ud_n (by omega)).symm, (ud_n (by omega)).symm⟩) y⟩
theorem st_eF (hG : gm_gd G) (ho : st_ok G P X (d + 1)) {w : Nat → Nat} {j : Nat} (hj : w j = 10) (hx : X d < gm_l G (P d)) {p : Nat} (hp : p < gm_n G) (hr : gm_s G (P d) (X d) = 10 + gm_r G p) (hf : gm_fq G (w i) p 0) {k : Nat} (h : dr_D G w (gm_r G p) i k) (h' : st_R G w P (ud X d (X d + 1)) (d + 1) k j) : dr_S G w p (gm_l G p) 0 i k := by
  obtain ⟨q, hq, hrq, hS⟩ := dr_D_to h
  have ho' := st_eO ho hx hp hr
  have hW : gm_W G (w k) (gm_r G p) := by
    have := st_W hG.1 ho' hj (d + 1) k (by omega) (st_cg (d + 1) k j (fun a ha => ⟨(ud_n (by omega)).symm, (ud_n (by omega)).symm⟩) h')
    rw [ud_s] at this
    exact this
  have P1 := ll_P hG.1 hS (by rw [hrq]; exact hW)
  have e : p = q := ll_un hG hp hq hrq.symm P1.2 (Or.inl hf) P1.1
  subst e
  exact hS
theorem st_eI (hG : gm_gd G) (ho : st_ok G P X (d + 1)) (hV : st_V G w (i + 1) i P X (d + 1)) (hx : X d < gm_l G (P d)) {p : Nat} (hp : p < gm_n G) (hr : gm_s G (P d) (X d) = 10 + gm_r G p) (hf : gm_fq G (w i) p 0) (hI : st_I G w (i + 1) i P X (d + 1)) : st_I G w (i + 1) i (ud P (d + 1) p) (ud (ud X d (X d + 1)) (d + 1) 0) (d + 2) ∧ st_V G w (i + 1) i (ud P (d + 1) p) (ud (ud X d (X d + 1)) (d + 1) 0) (d + 2) := by
  have key : ∀ w' j, (∀ x, x < i + 1 → w' x = w x) → w' j = 10 → (st_R G w' P X (d + 1) i j ↔ st_R G w' (ud P (d + 1) p) (ud (ud X d (X d + 1)) (d + 1) 0) (d + 2) i j) := by
    intro w' j a e
    rw [st_eR, st_top hx]
    constructor
    · intro ⟨k, x, y⟩
      rcases x with ⟨x, _⟩ | ⟨_, x⟩
      · omega
      · rw [show gm_s G (P d) (X d) - 10 = gm_r G p from by omega] at x
        exact ⟨k, st_eF hG ho e hx hp hr (by rw [a i (by omega)]; exact hf) x y, y⟩
    · intro ⟨k, x, y⟩
      exact ⟨k, Or.inr ⟨by omega, by rw [show gm_s G (P d) (X d) - 10 = gm_r G p from by omega]; exact dr_D_of hp x⟩, y⟩
  obtain ⟨w1, j1, a1, c1, e1, f1⟩ := hV
  exact ⟨fun w' j a c e => (hI w' j a c e).trans (key w' j a e), w1, j1, a1, c1, e1, (key w1 j1 a1 e1).mp f1⟩
/-! how deep, how long: levels of FIRST -/
def st_J (G : gm_G) (c R p x : Nat) : Prop := R = 6 ∨ gm_fs G (gm_U G) (fx_L (gm_fF G c) R) c p x
theorem st_JF {c R p x n : Nat} (hG : gm_gd G) (hv : gm_v G p) (hc : c < 10) (hx : x < gm_l G p) (hs : gm_s G p x = 10 + n) (hF : gm_F G c n) (hJ : st_J G c R p x) : fx_L (gm_fF G c) R n := by
  rcases hJ with rfl | hJ
  · exact gm_F6 hF
  · obtain ⟨_, h | ⟨_, h⟩ | ⟨_, h, h'⟩⟩ := gm_fs_e.mp hJ
    · omega
    · rw [show gm_s G p x - 10 = n from by omega] at h
      exact h
    · exfalso
      rw [show gm_s G p x - 10 = n from by omega] at h
      obtain ⟨k, hk⟩ := hF
      have h16 := (gm_vs hG.1 hv).2 x hx
      rcases hv with hv | rfl
      · exact ll_dj hG k n hk h (gm_We.mpr ⟨by omega, by omega, Or.inr ⟨p, x, hv, hx, hs, Or.inl ⟨hc, gm_fs_mo (fun _ z => z) (fun _ z => ⟨R, z⟩) h'⟩⟩⟩)
      · obtain ⟨m', a, b, _⟩ := h'
        have := hG.1.2.2.2.1
        omega
theorem st_Jk {c R p x n : Nat} (hc : c < 10) (hs : gm_s G p x = 10 + n) (hF : ¬ gm_F G c n) (hJ : st_J G c R p x) : st_J G c R p (x + 1) := by
  rcases hJ with rfl | hJ
  · exact Or.inl rfl
  · obtain ⟨_, h | ⟨_, h⟩ | ⟨_, h, h'⟩⟩ := gm_fs_e.mp hJ
    · omega
    · rw [show gm_s G p x - 10 = n from by omega] at h
      exact absurd ⟨R, h⟩ hF
    · exact Or.inr h'
theorem st_Je {c R p : Nat} (hG : gm_gd G) (hp : p < gm_n G) (hf : gm_fq G c p 0) (h : fx_L (gm_fF G c) R (gm_r G p)) : 1 ≤ R ∧ st_J G c (R - 1) p 0 := by
  cases R with
  | zero => exact h.elim
  | succ R =>
    obtain ⟨_, hc, q, hq, hr, hs⟩ := h
    have e : p = q := ll_un hG (t := c) hp hq hr.symm (by omega) (Or.inl hf) (Or.inl ⟨hc, gm_fs_mo (fun _ z => z) (fun _ z => ⟨R, z⟩) hs⟩)
    subst e
    exact ⟨by omega, Or.inr hs⟩
/-! how many steps are left -/
def st_m (G : gm_G) (P X : Nat → Nat) : Nat → Nat
  | 0 => 0
  | d + 1 => (gm_l G (P d) - X d + 1) + st_m G P X d
theorem st_m_cg {P' X' : Nat → Nat} : ∀ d, (∀ a, a < d → P a = P' a ∧ X a = X' a) → st_m G P X d = st_m G P' X' d
  | 0, _ => rfl
  | d + 1, e => by
    unfold st_m
    rw [(e d (by omega)).1, (e d (by omega)).2, st_m_cg d (fun a ha => e a (by omega))]
theorem st_m_le (hG : gm_ok G) : ∀ d, (∀ a, a < d → gm_v G (P a)) → st_m G P X d ≤ 5 * d
  | 0, _ => Nat.le_refl _
  | d + 1, h => by
    have a := st_m_le hG d (fun a ha => h a (by omega))
    have b := (gm_vs hG (h d (by omega))).1
    unfold st_m
    omega
end
end
section
/-! the sentence case: the stack is a path of the tree; roles and scopes -/
noncomputable def cl_pick (P : Nat → Prop) (d : Nat) : Nat := @dite Nat (∃ r, P r) (Classical.propDecidable _) (fun h => Classical.choose h) (fun _ => d)
theorem cl_t {P : Nat → Prop} {d r : Nat} (h : P r) (hu : ∀ r', P r' → r' = r) : cl_pick P d = r := by
  unfold cl_pick
  rw [dif_pos ⟨r, h⟩]
  exact hu _ (Classical.choose_spec ⟨r, h⟩)
theorem cl_f {P : Nat → Prop} {d : Nat} (h : ∀ r, ¬ P r) : cl_pick P d = d := by
  unfold cl_pick
  exact dif_neg (fun ⟨r, z⟩ => h r z)
noncomputable def px_r (G : gm_G) (w : Nat → Nat) (n x : Nat) : Nat := cl_pick (fun r => dr_D G w 0 0 n ∧ ∃ k p m, tr_f G w n k x p m ∧ r = gm_o G p m) 0
noncomputable def px_c (G : gm_G) (w : Nat → Nat) (n x : Nat) : Nat := cl_pick (fun c => dr_D G w 0 0 n ∧ ∃ i j, sc_m G w n x i j ∧ c = 32 * i + j) 0
def st_T (G : gm_G) (w : Nat → Nat) (len : Nat) (P X S : Nat → Nat) : Nat → Nat → Prop
  | 0, e => e = len
  | d + 1, e => ∃ e', dr_S G w (P d) (X d) 0 (S d) e ∧ dr_S G w (P d) (gm_l G (P d) - X d) (X d) e e' ∧ tr_N G w len d (P d) (S d) e' ∧ st_T G w len P X S d e'
theorem st_Tcg {G : gm_G} {w : Nat → Nat} {len : Nat} {P X S P' X' S' : Nat → Nat} : ∀ d e, (∀ a, a < d → P a = P' a ∧ X a = X' a ∧ S a = S' a) → st_T G w len P X S d e → st_T G w len P' X' S' d e
  | 0, _, _, h => h
  | d + 1, e, h, ⟨e', a, b, c, f⟩ => by
    obtain ⟨h1, h2, h3⟩ := h d (by omega)
    rw [h1, h2, h3] at a
    rw [h1, h2] at b
    rw [h1, h3] at c
    exact ⟨e', a, b, c, st_Tcg d e' (fun a ha => h a (by omega)) f⟩
theorem st_Tn {G : gm_G} {w : Nat → Nat} {len : Nat} {P X S : Nat → Nat} : ∀ d e, st_T G w len P X S d e → ∀ a, a < d → ∃ e', tr_N G w len a (P a) (S a) e' ∧ e ≤ e'
  | 0, _, _, _, h => by omega
  | d + 1, e, ⟨e', x, y, z, f⟩, a, h => by
    have l := dr_S_le y
    rcases Nat.lt_or_ge a d with q | q
    · obtain ⟨e2, u, v⟩ := st_Tn d e' f a q
      exact ⟨e2, u, by omega⟩
    · have q : a = d := by omega
      subst q
      exact ⟨e', z, l⟩
section
variable {G : gm_G} {w : Nat → Nat} {len : Nat} {P X S : Nat → Nat} {d i : Nat}
theorem st_Tc (h : X d = gm_l G (P d)) (hT : st_T G w len P X S (d + 1) i) : tr_N G w len d (P d) (S d) i ∧ st_T G w len P X S d i := by
  obtain ⟨e', a, b, c, f⟩ := hT
  rw [h, Nat.sub_self] at b
  have b : i = e' := b
  subst b
  exact ⟨c, f⟩
theorem st_Tk (hG : gm_gd G) (hx : X d < gm_l G (P d)) (hs : 10 ≤ gm_s G (P d) (X d)) (hn : ¬ gm_F G (w i) (gm_s G (P d) (X d) - 10)) (hT : st_T G w len P X S (d + 1) i) : st_T G w len P (ud X d (X d + 1)) S (d + 1) i := by
  obtain ⟨e', a, b, c, f⟩ := hT
  rw [show gm_l G (P d) - X d = (gm_l G (P d) - (X d + 1)) + 1 from by omega] at b
  obtain ⟨k, x, y⟩ := b
  have e : k = i := by
    rcases x with ⟨x, _⟩ | ⟨_, x⟩
    · omega
    · have l := dr_D_le _ _ _ x
      rcases Nat.lt_or_ge i k with z | z
      · exact absurd (dr_F hG.1 x z).2 hn
      · omega
  subst e
  refine ⟨e', ?_, ?_, c, st_Tcg d e' (fun a ha => ⟨rfl, (ud_n (by omega)).symm, rfl⟩) f⟩
  · rw [ud_s]; exact dr_sn a x
  · rw [ud_s]; exact y
theorem st_Tt (hx : X d < gm_l G (P d)) (hs : gm_s G (P d) (X d) < 10) (hT : st_T G w len P X S (d + 1) i) : tr_f G w len d i (P d) (X d) ∧ st_T G w len P (ud X d (X d + 1)) S (d + 1) (i + 1) := by
  obtain ⟨e', a, b, c, f⟩ := hT
  rw [show gm_l G (P d) - X d = (gm_l G (P d) - (X d + 1)) + 1 from by omega] at b
  obtain ⟨k, x, y⟩ := b
  have e : k = i + 1 := by
    rcases x with ⟨_, _, x⟩ | ⟨x, _⟩
    · exact x
    · omega
  subst e
  refine ⟨⟨S d, e', c, ⟨hx, a, x, y⟩, hs⟩, e', ?_, ?_, c, st_Tcg d e' (fun a ha => ⟨rfl, (ud_n (by omega)).symm, rfl⟩) f⟩
  · rw [ud_s]; exact dr_sn a x
  · rw [ud_s]; exact y
theorem st_Te (hG : gm_gd G) (hw : w len = 10) (hx : X d < gm_l G (P d)) {p : Nat} (hp : p < gm_n G) (hr : gm_s G (P d) (X d) = 10 + gm_r G p) (hf : gm_fq G (w i) p 0) (hT : st_T G w len P X S (d + 1) i) : st_T G w len (ud P (d + 1) p) (ud (ud X d (X d + 1)) (d + 1) 0) (ud S (d + 1) i) (d + 2) i := by
  obtain ⟨e', a, b, c, f⟩ := hT
  rw [show gm_l G (P d) - X d = (gm_l G (P d) - (X d + 1)) + 1 from by omega] at b
  obtain ⟨k, x, y⟩ := b
  obtain ⟨v, _, W, _, _⟩ := tr_b hG hw d _ _ _ c
  have D : dr_D G w (gm_r G p) i k := by
    rcases x with ⟨x, _⟩ | ⟨_, x⟩
    · omega
    · rw [show gm_s G (P d) (X d) - 10 = gm_r G p from by omega] at x
      exact x
  have Wk := ll_F hG.1 v hx hr y W
  obtain ⟨q, hq, hrq, hS⟩ := dr_D_to D
  have P1 := ll_P hG.1 hS (by rw [hrq]; exact Wk)
  have e : p = q := ll_un hG hp hq hrq.symm P1.2 (Or.inl hf) P1.1
  subst e
  refine ⟨k, ?_, ?_, ?_, e', ?_, ?_, ?_, st_Tcg d e' (fun a ha => ⟨(ud_n (by omega)).symm, by rw [ud_n (by omega), ud_n (by omega)], (ud_n (by omega)).symm⟩) f⟩
  · rw [ud_s, ud_s, ud_s]; exact rfl
  · rw [ud_s, ud_s]; exact hS
  · rw [ud_s, ud_s]
    exact ⟨P d, S d, e', X d, c, ⟨hx, a, x, y⟩, hr, hp, hS⟩
  · rw [ud_n (f := P) (by omega), ud_n (f := ud X d (X d + 1)) (by omega), ud_n (f := S) (by omega), ud_s]; exact dr_sn a x
  · rw [ud_n (by omega), ud_n (by omega), ud_s]; exact y
  · rw [ud_n (by omega), ud_n (by omega)]; exact c
/-! marks -/
def mk_R (G : gm_G) (w : Nat → Nat) (len i : Nat) (ro : Nat → Int32) : Prop := ∀ x, x < 20 → (x < i → ∃ k p m, tr_f G w len k x p m ∧ ro x = nI (gm_o G p m)) ∧ (i ≤ x → ro x = 0)
def mk_S (G : gm_G) (w : Nat → Nat) (len i : Nat) (P S : Nat → Nat) (d : Nat) (sc : Nat → Int32) : Prop :=
  (∀ x, x < 20 → sc x = -1 ∨ ∃ a b, sc x = nI (32 * a + b) - 1 ∧ sc_in G w len x a b ∧ b ≤ i ∧ ∀ c, c < d → S c ≤ x → S c ≤ a) ∧
  (∀ x k p a b, x < i → tr_N G w len k p a b → gm_k G p = 1 → a ≤ x → x < b → (k < d ∧ P k = p ∧ S k = a) ∨ ∃ a' b', sc x = nI (32 * a' + b') - 1 ∧ sc_in G w len x a' b' ∧ a ≤ a' ∧ b' ≤ b)
def st_s (S : Nat → Nat) (d i : Nat) : Prop := (∀ a b, a ≤ b → b < d → S a ≤ S b) ∧ ∀ a, a < d → S a ≤ i
def mk_c (sc : Nat → Int32) (s i : Nat) : Nat → Int32 := fun x => if s ≤ x ∧ x < i ∧ sc x = -1 then nI (32 * s + i) - 1 else sc x
theorem mk_cd {a b : Nat} (hb : 1 ≤ b) (h : 32 * a + b < 2 ^ 31) : ¬ nI (32 * a + b) - 1 = -1 := by
  rw [ba_m1 (by omega)]
  intro z
  have := nI_pos' (n := 32 * a + b - 1) (by omega)
  rw [z] at this
  exact absurd this (by decide)
theorem mk_Su {sc : Nat → Int32} (hG : gm_gd G) (hw : w len = 10) (hn : len ≤ 20) (hu : ¬ gm_k G (P d) = 1) (hM : mk_S G w len i P S (d + 1) sc) : mk_S G w len i P S d sc := by
  refine ⟨fun x hx => ?_, fun x k p a b h1 h2 h3 h4 h5 => ?_⟩
  · rcases hM.1 x hx with h | ⟨a, b, q1, q2, q3, q4⟩
    · exact Or.inl h
    · exact Or.inr ⟨a, b, q1, q2, q3, fun c hc => q4 c (by omega)⟩
  · rcases hM.2 x k p a b h1 h2 h3 h4 h5 with ⟨q1, q2, q3⟩ | h
    · rcases Nat.lt_or_ge k d with z | z
      · exact Or.inl ⟨z, q2, q3⟩
      · have e : k = d := by omega
        subst e
        rw [q2] at hu
        exact absurd h3 hu
    · exact Or.inr h
theorem mk_Sm {sc : Nat → Int32} (hG : gm_gd G) (hw : w len = 10) (hn : len ≤ 20) (hm : gm_k G (P d) = 1) (hs : st_s S (d + 1) i) (hN : tr_N G w len d (P d) (S d) i) (hM : mk_S G w len i P S (d + 1) sc) : mk_S G w len i P S d (mk_c sc (S d) i) := by
  have hb := tr_b hG hw d _ _ _ hN
  refine ⟨fun x hx => ?_, fun x k p a b h1 h2 h3 h4 h5 => ?_⟩
  · unfold mk_c
    split
    · next h =>
      refine Or.inr ⟨S d, i, rfl, ⟨⟨by omega, d, P d, hN, hm⟩, h.1, h.2.1⟩, Nat.le_refl _, fun c hc _ => hs.1 c d (by omega) (by omega)⟩
    · rcases hM.1 x hx with h | ⟨a, b, q1, q2, q3, q4⟩
      · exact Or.inl h
      · exact Or.inr ⟨a, b, q1, q2, q3, fun c hc => q4 c (by omega)⟩
  · have keep : ∀ a' b', sc x = nI (32 * a' + b') - 1 → sc_in G w len x a' b' → mk_c sc (S d) i x = nI (32 * a' + b') - 1 := by
      intro a' b' z1 z2
      have l := sc_len hG hw z2.1
      unfold mk_c
      rw [if_neg (fun z => mk_cd (a := a') (b := b') (by omega) (by omega) (z1.symm.trans z.2.2))]
      exact z1
    rcases hM.2 x k p a b h1 h2 h3 h4 h5 with ⟨q1, q2, q3⟩ | ⟨a', b', q1, q2, q3, q4⟩
    · rcases Nat.lt_or_ge k d with z | z
      · exact Or.inl ⟨z, q2, q3⟩
      · have e : k = d := by omega
        subst e
        subst q2 q3
        obtain ⟨_, _, e3⟩ := tr_lu hG hw k _ _ _ _ _ _ x h2 hN h4 h5 h4 h1
        subst e3
        right
        rcases hM.1 x (by omega) with h | ⟨a, b', r1, r2, r3, r4⟩
        · refine ⟨S k, b, ?_, ⟨⟨by omega, k, P k, hN, hm⟩, h4, h5⟩, Nat.le_refl _, Nat.le_refl _⟩
          unfold mk_c
          rw [if_pos ⟨h4, h5, h⟩]
        · exact ⟨a, b', keep a b' r1 r2, r2, r4 k (by omega) h4, r3⟩
    · exact Or.inr ⟨a', b', keep a' b' q1 q2, q2, q3, q4⟩
theorem mk_Sk {sc : Nat → Int32} (hM : mk_S G w len i P S (d + 1) sc) {p : Nat} (hs : st_s S (d + 1) i) : mk_S G w len i (ud P (d + 1) p) (ud S (d + 1) i) (d + 2) sc := by
  refine ⟨fun x hx => ?_, fun x k p a b h1 h2 h3 h4 h5 => ?_⟩
  · rcases hM.1 x hx with h | ⟨a, b, q1, q2, q3, q4⟩
    · exact Or.inl h
    · refine Or.inr ⟨a, b, q1, q2, q3, fun c hc => ?_⟩
      rcases Nat.lt_or_ge c (d + 1) with z | z
      · rw [ud_n (by omega)]; exact q4 c z
      · have e : c = d + 1 := by omega
        subst e
        rw [ud_s]
        intro z
        have := q2.2.2
        omega
  · rcases hM.2 x k p a b h1 h2 h3 h4 h5 with ⟨q1, q2, q3⟩ | h
    · exact Or.inl ⟨by omega, by rw [ud_n (by omega)]; exact q2, by rw [ud_n (by omega)]; exact q3⟩
    · exact Or.inr h
theorem st_sk {p : Nat} (hs : st_s S (d + 1) i) : st_s (ud S (d + 1) i) (d + 2) i := by
  refine ⟨fun a b h1 h2 => ?_, fun a ha => ?_⟩
  · rcases Classical.em (b = d + 1) with e | e
    · subst e
      rw [ud_s]
      rcases Classical.em (a = d + 1) with e2 | e2
      · subst e2; rw [ud_s]; exact Nat.le_refl _
      · rw [ud_n e2]; exact hs.2 a (by omega)
    · rw [ud_n e, ud_n (by omega)]; exact hs.1 a b h1 (by omega)
  · rcases Classical.em (a = d + 1) with e2 | e2
    · subst e2; rw [ud_s]; exact Nat.le_refl _
    · rw [ud_n e2]; exact hs.2 a (by omega)
theorem mk_St {sc : Nat → Int32} (hG : gm_gd G) (hw : w len = 10) (hs : st_s S (d + 1) i) {p m : Nat} {X' : Nat → Nat} (hf : tr_f G w len d i p m) (hT : st_T G w len P X' S (d + 1) (i + 1)) (hM : mk_S G w len i P S (d + 1) sc) : mk_S G w len (i + 1) P S (d + 1) sc := by
  refine ⟨fun x hx => ?_, fun x k p a b h1 h2 h3 h4 h5 => ?_⟩
  · rcases hM.1 x hx with h | ⟨a, b, q1, q2, q3, q4⟩
    · exact Or.inl h
    · exact Or.inr ⟨a, b, q1, q2, by omega, q4⟩
  · rcases Nat.lt_or_ge x i with z | z
    · exact hM.2 x k p a b z h2 h3 h4 h5
    · have e : x = i := by omega
      subst e
      have hk := tr_fd hG hw hf h2 h4 h5
      obtain ⟨e', y1, y2⟩ := st_Tn (d + 1) (x + 1) hT k (by omega)
      obtain ⟨e1, e2, _⟩ := tr_lu hG hw k _ _ _ _ _ _ x h2 y1 h4 h5 (hs.2 k (by omega)) (by omega)
      exact Or.inl ⟨by omega, e1.symm, e2.symm⟩
theorem mk_Rt {ro : Nat → Int32} {v : Int32} {p m : Nat} (hf : tr_f G w len d i p m) (hv : v = nI (gm_o G p m)) (hM : mk_R G w len i ro) : mk_R G w len (i + 1) (fun x => if x = i then v else ro x) := by
  intro x hx
  refine ⟨fun h => ?_, fun h => ?_⟩
  · rcases Nat.lt_or_ge x i with z | z
    · obtain ⟨k, p, m, a, b⟩ := (hM x hx).1 z
      exact ⟨k, p, m, a, (if_neg (by omega)).trans b⟩
    · have e : x = i := by omega
      subst e
      exact ⟨d, p, m, hf, (if_pos rfl).trans hv⟩
  · exact (if_neg (by omega)).trans ((hM x hx).2 (by omega))
/-! at the end -/
theorem px_rt (hG : gm_gd G) (hw : w len = 10) (hd : dr_D G w 0 0 len) {k x p m : Nat} (h : tr_f G w len k x p m) : px_r G w len x = gm_o G p m := by
  refine cl_t ⟨hd, k, p, m, h, rfl⟩ (fun r' ⟨_, k', p', m', h', e⟩ => ?_)
  obtain ⟨_, e1, e2⟩ := tr_fu hG hw h h'
  subst e1 e2
  exact e
theorem px_rn (hG : gm_gd G) (hw : w len = 10) {x : Nat} (hx : len ≤ x) : px_r G w len x = 0 := by
  refine cl_f (fun r ⟨_, k, p, m, ⟨a, b, h1, h2, h3⟩, e⟩ => ?_)
  have := (tr_b hG hw k p a b h1).2.2.2.2
  have := (tr_Cle h2).2.2
  omega
theorem px_r0 {x : Nat} (hd : ¬ dr_D G w 0 0 len) : px_r G w len x = 0 := cl_f (fun r h => hd h.1)
theorem px_c0 {x : Nat} (hd : ¬ dr_D G w 0 0 len) : px_c G w len x = 0 := cl_f (fun r h => hd h.1)
theorem sc_mu {x a b a' b' : Nat} (h : sc_m G w len x a b) (h' : sc_m G w len x a' b') : a = a' ∧ b = b' := by
  have q := h.2 a' b' h'.1
  have q' := h'.2 a b h.1
  omega
theorem px_ct {x a b : Nat} (hd : dr_D G w 0 0 len) (h : sc_m G w len x a b) : px_c G w len x = 32 * a + b := by
  refine cl_t ⟨hd, a, b, h, rfl⟩ (fun r' ⟨_, a', b', h', e⟩ => ?_)
  obtain ⟨e1, e2⟩ := sc_mu h h'
  omega
theorem px_cn {x : Nat} (h : ∀ a b, ¬ sc_in G w len x a b) : px_c G w len x = 0 := cl_f (fun r ⟨_, a, b, z, _⟩ => h a b z.1)
theorem mk_end {sc : Nat → Int32} (hG : gm_gd G) (hw : w len = 10) (hn : len ≤ 20) (hd : dr_D G w 0 0 len) (hM : mk_S G w len len P S 0 sc) {x : Nat} (hx : x < 20) : sc x = nI (px_c G w len x) - 1 := by
  rcases hM.1 x hx with h | ⟨a, b, q1, q2, q3, q4⟩
  · rw [px_cn (fun a b z => ?_), h]
    · rfl
    · obtain ⟨⟨z1, k, p, z2, z3⟩, z4, z5⟩ := z
      have l := (tr_b hG hw k p a b z2).2.2.2.2
      rcases hM.2 x k p a b (by omega) z2 z3 z4 z5 with ⟨q, _⟩ | ⟨a', b', q1, q2, _, _⟩
      · omega
      · have l2 := sc_len hG hw q2.1
        exact mk_cd (a := a') (b := b') (by omega) (by omega) (q1.symm.trans h)
  · rw [px_ct hd (a := a) (b := b) ⟨q2, fun a' b' z => ?_⟩]
    · exact q1
    · obtain ⟨⟨z1, k, p, z2, z3⟩, z4, z5⟩ := z
      have l := (tr_b hG hw k p a' b' z2).2.2.2.2
      rcases hM.2 x k p a' b' (by omega) z2 z3 z4 z5 with ⟨q, _⟩ | ⟨c, e, r1, r2, r3, r4⟩
      · omega
      · have l1 := sc_len hG hw q2.1
        have l2 := sc_len hG hw r2.1
        have z := q1.symm.trans r1
        rw [ba_m1 (by omega), ba_m1 (by omega), nI_eq (by omega) (by omega)] at z
        omega
theorem mk_endR {ro : Nat → Int32} (hG : gm_gd G) (hw : w len = 10) (hd : dr_D G w 0 0 len) (hM : mk_R G w len len ro) {x : Nat} (hx : x < 20) : ro x = nI (px_r G w len x) := by
  rcases Nat.lt_or_ge x len with z | z
  · obtain ⟨k, p, m, a, b⟩ := (hM x hx).1 z
    rw [px_rt hG hw hd a]; exact b
  · rw [px_rn hG hw z, (hM x hx).2 z]; rfl
end
end
section
/-! X's parse: the small methods -/
def xo_r (w f : Nat) (A A' : Nat → Int32) : Prop := ∀ y, (y < f * w ∨ f * w + w ≤ y) → A' y = A y
theorem xo_rr {w f : Nat} {A : Nat → Int32} : xo_r w f A A := fun _ _ => rfl
theorem xo_rt {w f : Nat} {A B C : Nat → Int32} (h : xo_r w f A B) (h' : xo_r w f B C) : xo_r w f A C := fun y hy => (h' y hy).trans (h y hy)
theorem xo_ru {w f k : Nat} {A : Nat → Int32} {v : Int32} (hk : k < w) : xo_r w f A (upd A (f * w + k) v) := fun y hy => if_neg (by omega)
theorem ba_if {α : Type} {P Q : Prop} {i1 : Decidable P} {i2 : Decidable Q} {a b : α} (h : P ↔ Q) : @ite α P i1 a b = @ite α Q i2 a b := by
  rcases Classical.em P with z | z
  · rw [if_pos z, if_pos (h.mp z)]
  · rw [if_neg z, if_neg (fun y => z (h.mpr y))]
theorem ba_s {a : Nat} : nI a + (-1) = nI a - 1 := by rw [Int32.sub_eq_add_neg]
section
variable {f_built f_productionCount f_depth : Int32} {a_ruleOf a_marked a_symbolCount a_symbols a_roles a_derives a_first a_follow a_textLength a_kindAt a_valueAt a_failsAt a_expectedAt a_roleAt a_scopeAt a_openProduction a_openNext a_openStart a_targetBefore : Nat → Int32} {G : gm_G}
theorem xp_cm2 {f : Nat} (hf : f < 4) (post : SX → Prop) (hP : ∀ RO SC, (∀ x, x < 20 → RO (f * 20 + x) = 0 ∧ SC (f * 20 + x) = -1) → xo_r 20 f a_roleAt RO → xo_r 20 f a_scopeAt SC → post (f_built, f_productionCount, f_depth, a_ruleOf, a_marked, a_symbolCount, a_symbols, a_roles, a_derives, a_first, a_follow, a_textLength, a_kindAt, a_valueAt, a_failsAt, a_expectedAt, RO, SC, a_openProduction, a_openNext, a_openStart, a_targetBefore)) :
    ∀ d k RO SC, k + d = 20 → (∀ x, x < k → RO (f * 20 + x) = 0 ∧ SC (f * 20 + x) = -1) → xo_r 20 f a_roleAt RO → xo_r 20 f a_scopeAt SC → wX_clearMarks_2 post (nI f) f_built f_productionCount f_depth (d + 1) (nI k) a_ruleOf a_marked a_symbolCount a_symbols a_roles a_derives a_first a_follow a_textLength a_kindAt a_valueAt a_failsAt a_expectedAt RO SC a_openProduction a_openNext a_openStart a_targetBefore := by
  intro d
  induction d with
  | zero =>
    intro k RO SC hk h1 h2 h3
    rw [wX_clearMarks_2]
    dsimp only
    exact br_t (nI_le (a := 20) (by omega) (by omega)) (hP RO SC (fun x hx => h1 x (by omega)) h2 h3)
  | succ d ih =>
    intro k RO SC hk h1 h2 h3
    have c1 : (nI (f * 20 + k)).toNatClampNeg = f * 20 + k := nI_clamp (by omega)
    have i1 : vp_in (nI (f * 20 + k)) 80 := vp_in_nI (by omega) (by omega)
    rw [wX_clearMarks_2]
    dsimp only
    rw [ba_x20, c1]
    refine br_f (nI_ge (b := 20) (by omega) (by omega)) ⟨i1, nm_e ⟨i1, nm_e (nm_r (nI_1 k) (ih (k + 1) _ _ (by omega) (fun x hx => ?_) (xo_rt h2 (xo_ru (by omega))) (xo_rt h3 (xo_ru (by omega)))))⟩⟩
    rcases Nat.lt_or_ge x k with z | z
    · rw [ba_up, ba_up, if_neg (by omega), if_neg (by omega)]
      exact h1 x z
    · have e : x = k := by omega
      subst e
      rw [ba_up, ba_up, if_pos rfl, if_pos rfl]
      exact ⟨rfl, rfl⟩
theorem xp_cm {f : Nat} (hf : f < 4) (post : SX → Prop) (hP : ∀ RO SC, (∀ x, x < 20 → RO (f * 20 + x) = 0 ∧ SC (f * 20 + x) = -1) → xo_r 20 f a_roleAt RO → xo_r 20 f a_scopeAt SC → post (f_built, f_productionCount, f_depth, a_ruleOf, a_marked, a_symbolCount, a_symbols, a_roles, a_derives, a_first, a_follow, a_textLength, a_kindAt, a_valueAt, a_failsAt, a_expectedAt, RO, SC, a_openProduction, a_openNext, a_openStart, a_targetBefore)) : wpX_clearMarks post (f_built, f_productionCount, f_depth, a_ruleOf, a_marked, a_symbolCount, a_symbols, a_roles, a_derives, a_first, a_follow, a_textLength, a_kindAt, a_valueAt, a_failsAt, a_expectedAt, a_roleAt, a_scopeAt, a_openProduction, a_openNext, a_openStart, a_targetBefore) (nI f) :=
  ⟨20 + 1, xp_cm2 hf post hP 20 0 a_roleAt a_scopeAt (by omega) (fun x hx => by omega) xo_rr xo_rr⟩
theorem xp_ce2 {f : Nat} (hf : f < 4) (post : SX → Prop) (hP : ∀ EX, (∀ x, x < 21 → EX (f * 21 + x) = 0) → xo_r 21 f a_expectedAt EX → post (f_built, f_productionCount, f_depth, a_ruleOf, a_marked, a_symbolCount, a_symbols, a_roles, a_derives, a_first, a_follow, a_textLength, a_kindAt, a_valueAt, a_failsAt, EX, a_roleAt, a_scopeAt, a_openProduction, a_openNext, a_openStart, a_targetBefore)) :
    ∀ d k EX, k + d = 21 → (∀ x, x < k → EX (f * 21 + x) = 0) → xo_r 21 f a_expectedAt EX → wX_clearExpected_2 post (nI f) f_built f_productionCount f_depth (d + 1) (nI k) a_ruleOf a_marked a_symbolCount a_symbols a_roles a_derives a_first a_follow a_textLength a_kindAt a_valueAt a_failsAt EX a_roleAt a_scopeAt a_openProduction a_openNext a_openStart a_targetBefore := by
  intro d
  induction d with
  | zero =>
    intro k EX hk h1 h2
    rw [wX_clearExpected_2]
    dsimp only
    exact br_t (nI_le (a := 21) (by omega) (by omega)) (hP EX (fun x hx => h1 x (by omega)) h2)
  | succ d ih =>
    intro k EX hk h1 h2
    have c1 : (nI (f * 21 + k)).toNatClampNeg = f * 21 + k := nI_clamp (by omega)
    have i1 : vp_in (nI (f * 21 + k)) 84 := vp_in_nI (by omega) (by omega)
    rw [wX_clearExpected_2]
    dsimp only
    rw [ba_x21, c1]
    refine br_f (nI_ge (b := 21) (by omega) (by omega)) ⟨i1, nm_e (nm_r (nI_1 k) (ih (k + 1) _ (by omega) (fun x hx => ?_) (xo_rt h2 (xo_ru (by omega)))))⟩
    rcases Nat.lt_or_ge x k with z | z
    · rw [ba_up, if_neg (by omega)]
      exact h1 x z
    · have e : x = k := by omega
      subst e
      rw [ba_up, if_pos rfl]
theorem xp_ce {f : Nat} (hf : f < 4) (post : SX → Prop) (hP : ∀ EX, (∀ x, x < 21 → EX (f * 21 + x) = 0) → xo_r 21 f a_expectedAt EX → post (f_built, f_productionCount, f_depth, a_ruleOf, a_marked, a_symbolCount, a_symbols, a_roles, a_derives, a_first, a_follow, a_textLength, a_kindAt, a_valueAt, a_failsAt, EX, a_roleAt, a_scopeAt, a_openProduction, a_openNext, a_openStart, a_targetBefore)) : wpX_clearExpected post (f_built, f_productionCount, f_depth, a_ruleOf, a_marked, a_symbolCount, a_symbols, a_roles, a_derives, a_first, a_follow, a_textLength, a_kindAt, a_valueAt, a_failsAt, a_expectedAt, a_roleAt, a_scopeAt, a_openProduction, a_openNext, a_openStart, a_targetBefore) (nI f) :=
  ⟨21 + 1, xp_ce2 hf post hP 21 0 a_expectedAt (by omega) (fun x hx => by omega) xo_rr⟩
theorem xp_op {d p i : Nat} (hd : d < 121) (he : f_depth = nI d) (post : SX → Prop) (hP : post (f_built, f_productionCount, nI (d + 1), a_ruleOf, a_marked, a_symbolCount, a_symbols, a_roles, a_derives, a_first, a_follow, a_textLength, a_kindAt, a_valueAt, a_failsAt, a_expectedAt, a_roleAt, a_scopeAt, upd a_openProduction d (nI p), upd a_openNext d 0, upd a_openStart d (nI i), a_targetBefore)) : wpX_open post (f_built, f_productionCount, f_depth, a_ruleOf, a_marked, a_symbolCount, a_symbols, a_roles, a_derives, a_first, a_follow, a_textLength, a_kindAt, a_valueAt, a_failsAt, a_expectedAt, a_roleAt, a_scopeAt, a_openProduction, a_openNext, a_openStart, a_targetBefore) (nI p) (nI i) := by
  subst he
  have c1 : (nI d).toNatClampNeg = d := nI_clamp (by omega)
  have i1 : vp_in (nI d) 121 := vp_in_nI hd (by omega)
  unfold wpX_open
  dsimp only
  rw [c1]
  exact br_t (nI_lt (b := 121) hd (by omega)) ⟨i1, nm_e ⟨i1, nm_e ⟨i1, nm_e (nm_r (nI_1 d) hP)⟩⟩⟩
def xp_a (P X S : Nat → Nat) (d : Nat) (OP ON OS : Nat → Int32) : Prop := ∀ a, a < d → OP a = nI (P a) ∧ ON a = nI (X a) ∧ OS a = nI (S a)
theorem xp_fo11e (post : Int32 → Prop) {x1 : Int32} (hb : bt x1 10 = false) (h : post x1) (n : Nat) (x2 : Int32) : wX_firstOfOpen_11 post f_built f_productionCount f_depth a_ruleOf a_marked a_symbolCount a_symbols a_roles a_derives a_first a_follow a_textLength a_kindAt a_valueAt a_failsAt a_expectedAt a_roleAt a_scopeAt a_openProduction a_openNext a_openStart a_targetBefore (n + 1) x1 x2 := by
  rw [wX_firstOfOpen_11]
  dsimp only
  exact br_c (fun _ => h) (fun _ => br_t (ba_t1024.mpr hb) h)
theorem xp_fo11 (hG : gm_ok G) (hx : xg_ok G f_productionCount a_ruleOf a_marked a_symbolCount a_symbols a_roles) (hB : ∀ n, n < 6 → gm_ms (a_first n) (fun t => t ≤ 10 ∧ gm_FU G t n)) {P X S : Nat → Nat} {d : Nat} (hd : d ≤ 121) (ho : st_ok G P X d) (ha : xp_a P X S d a_openProduction a_openNext a_openStart) (post : Int32 → Prop) :
    ∀ a x1, a ≤ d → bt x1 10 = true → (∀ r, gm_ms r (fun t => (t ≠ 10 ∧ bt x1 t = true) ∨ st_q G P X a t) → post r) → wX_firstOfOpen_11 post f_built f_productionCount f_depth a_ruleOf a_marked a_symbolCount a_symbols a_roles a_derives a_first a_follow a_textLength a_kindAt a_valueAt a_failsAt a_expectedAt a_roleAt a_scopeAt a_openProduction a_openNext a_openStart a_targetBefore (a + 1) x1 (nI a - 1) := by
  intro a
  induction a with
  | zero =>
    intro x1 h1 h2 hP
    rw [wX_firstOfOpen_11]
    dsimp only
    refine br_t (by decide) (hP x1 (fun t ht => ?_))
    dsimp only [st_q]
    rcases Classical.em (t = 10) with e | e
    · subst e; simp [h2]
    · simp [e]
  | succ a ih =>
    intro x1 h1 h2 hP
    obtain ⟨v, l, _⟩ := ho.2 a (by omega)
    obtain ⟨e1, e2, e3⟩ := ha a (by omega)
    have c1 : (nI a).toNatClampNeg = a := nI_clamp (by omega)
    have i1 : vp_in (nI a) 121 := vp_in_nI (by omega) (by omega)
    rw [wX_firstOfOpen_11]
    dsimp only
    rw [nI_pred, c1, e1, e2]
    refine br_f (nI_pos (by omega)) (br_f (by rw [ba_t1024, h2]; decide) ⟨i1, i1, xb_fr hG hx hB v l _ (fun r hr => nm_e (nm_r ba_s ?_))⟩)
    have hr' : ∀ t, t < 32 → (bt r t = true ↔ gm_fq G t (P a) (X a) ∨ (t = 10 ∧ gm_uq G (P a) (X a))) := fun t ht => (hr t ht).trans gm_xFU
    rcases Classical.em (gm_uq G (P a) (X a)) with q | q
    · refine ih _ (by omega) ?_ (fun r' hr2 => hP r' (fun t ht => ?_))
      · rw [b_or, (hr' 10 (by omega)).mpr (Or.inr ⟨rfl, q⟩)]; simp
      · rw [hr2 t ht]
        dsimp only [st_q]
        rw [b_or, b_and, ba_n1025 t ht, Bool.or_eq_true, Bool.and_eq_true, hr' t ht]
        rcases Classical.em (t = 10) with e | e
        · subst e
          simp only [ne_eq, not_true, false_and, false_or, q, true_and]
          exact ⟨Or.inr, fun h => h.elim (fun z => absurd z.1 (by omega)) id⟩
        · simp only [ne_eq, e, not_false_eq_true, decide_true, and_true, true_and, q, false_and, or_false]
          exact ⟨fun h => h.elim (fun z => z.elim Or.inl (fun y => Or.inr (Or.inl y))) (fun z => Or.inr (Or.inr z)), fun h => h.elim (fun z => Or.inl (Or.inl z)) (fun z => z.elim (fun y => Or.inl (Or.inr y)) Or.inr)⟩
    · have q0 : bt r 10 = false := by
        cases hh : bt r 10
        · rfl
        · rcases (hr' 10 (by omega)).mp hh with h | h
          · exact absurd h.1 (by omega)
          · exact absurd h.2 q
      refine xp_fo11e _ ?_ (hP _ (fun t ht => ?_)) a _
      · rw [b_or, b_and, ba_n1025 10 (by omega), q0]; simp
      · dsimp only [st_q]
        rw [b_or, b_and, ba_n1025 t ht, Bool.or_eq_true, Bool.and_eq_true, hr' t ht]
        rcases Classical.em (t = 10) with e | e
        · subst e; simp [q]
        · simp [e, q]
theorem xp_fo (hG : gm_ok G) (hx : xg_ok G f_productionCount a_ruleOf a_marked a_symbolCount a_symbols a_roles) (hB : ∀ n, n < 6 → gm_ms (a_first n) (fun t => t ≤ 10 ∧ gm_FU G t n)) {P X S : Nat → Nat} {d : Nat} (hd : d ≤ 121) (he : f_depth = nI d) (ho : st_ok G P X d) (ha : xp_a P X S d a_openProduction a_openNext a_openStart) (post : Int32 → Prop) (hP : ∀ r, gm_ms r (st_q G P X d) → post r) : wpX_firstOfOpen post (f_built, f_productionCount, f_depth, a_ruleOf, a_marked, a_symbolCount, a_symbols, a_roles, a_derives, a_first, a_follow, a_textLength, a_kindAt, a_valueAt, a_failsAt, a_expectedAt, a_roleAt, a_scopeAt, a_openProduction, a_openNext, a_openStart, a_targetBefore) := by
  unfold wpX_firstOfOpen
  dsimp only
  refine nm_r (by rw [he]) ⟨d + 1, xp_fo11 hG hx hB hd ho ha post d 1024 (Nat.le_refl _) (ba_1024 10 (by omega)) (fun r hr => hP r (fun t ht => ?_))⟩
  rw [hr t ht]
  dsimp only
  rw [ba_1024 t ht]
  simp
/-- what close writes -/
def xp_w (f s e : Nat) (A : Nat → Int32) : Nat → Int32 := fun y => if f * 20 + s ≤ y ∧ y < f * 20 + e ∧ A y = -1 then nI (32 * s + e) - 1 else A y
theorem xp_cl49 {f s e : Nat} (hf : f < 4) (hs : s ≤ e) (he : e ≤ 20) (post : SX → Prop) (hP : post (f_built, f_productionCount, f_depth, a_ruleOf, a_marked, a_symbolCount, a_symbols, a_roles, a_derives, a_first, a_follow, a_textLength, a_kindAt, a_valueAt, a_failsAt, a_expectedAt, a_roleAt, xp_w f s e a_scopeAt, a_openProduction, a_openNext, a_openStart, a_targetBefore)) :
    ∀ d k SC, s ≤ k → k + d = e → (∀ y, SC y = if f * 20 + s ≤ y ∧ y < f * 20 + k ∧ a_scopeAt y = -1 then nI (32 * s + e) - 1 else a_scopeAt y) → wX_close_49 post (nI f) (nI e) (nI s) f_built f_productionCount f_depth (d + 1) (nI k) a_ruleOf a_marked a_symbolCount a_symbols a_roles a_derives a_first a_follow a_textLength a_kindAt a_valueAt a_failsAt a_expectedAt a_roleAt SC a_openProduction a_openNext a_openStart a_targetBefore := by
  intro d
  induction d with
  | zero =>
    intro k SC h0 hk h1
    have e0 : k = e := by omega
    subst e0
    have e1 : SC = xp_w f s k a_scopeAt := funext h1
    rw [wX_close_49]
    dsimp only
    rw [e1]
    exact br_t (nI_le (by omega) (by omega)) hP
  | succ d ih =>
    intro k SC h0 hk h1
    have c1 : (nI (f * 20 + k)).toNatClampNeg = f * 20 + k := nI_clamp (by omega)
    have i1 : vp_in (nI (f * 20 + k)) 80 := vp_in_nI (by omega) (by omega)
    have hk1 : SC (f * 20 + k) = a_scopeAt (f * 20 + k) := by rw [h1]; exact if_neg (by omega)
    rw [wX_close_49]
    dsimp only
    rw [ba_x20, ba_32x]
    refine br_f (nI_ge (by omega) (by omega)) (nm_e ?_)
    rw [c1]
    refine ⟨i1, br_c (fun h => ⟨i1, nm_e (nm_r (nI_1 k) (ih (k + 1) _ (by omega) (by omega) (fun y => ?_)))⟩) (fun h => nm_r (nI_1 k) (ih (k + 1) _ (by omega) (by omega) (fun y => ?_)))⟩
    · rw [ba_up, h1]
      rcases Classical.em (y = f * 20 + k) with z | z
      · subst z
        rw [if_pos rfl, if_pos ⟨by omega, by omega, hk1 ▸ h⟩, Nat.mul_comm 32 s]
      · rw [if_neg z]
        have q : (f * 20 + s ≤ y ∧ y < f * 20 + k ∧ a_scopeAt y = -1) = (f * 20 + s ≤ y ∧ y < f * 20 + (k + 1) ∧ a_scopeAt y = -1) := propext ⟨fun a => ⟨a.1, by omega, a.2.2⟩, fun a => ⟨a.1, by omega, a.2.2⟩⟩
        exact ba_if (Iff.of_eq q)
    · rw [h1]
      rcases Classical.em (y = f * 20 + k) with z | z
      · subst z
        rw [if_neg (by omega), if_neg (fun a => h (hk1.trans a.2.2))]
      · have q : (f * 20 + s ≤ y ∧ y < f * 20 + k ∧ a_scopeAt y = -1) = (f * 20 + s ≤ y ∧ y < f * 20 + (k + 1) ∧ a_scopeAt y = -1) := propext ⟨fun a => ⟨a.1, by omega, a.2.2⟩, fun a => ⟨a.1, by omega, a.2.2⟩⟩
        exact ba_if (Iff.of_eq q)
theorem xp_cl (hG : gm_ok G) (hx : xg_ok G f_productionCount a_ruleOf a_marked a_symbolCount a_symbols a_roles) {f s e d p : Nat} (hf : f < 4) (hs : s ≤ e) (he : e ≤ 20) (hd : d < 121) (hp : gm_v G p) (e1 : f_depth = nI (d + 1)) (e2 : a_openProduction d = nI p) (e3 : a_openStart d = nI s) (post : SX → Prop) (hP1 : gm_k G p = 1 → post (f_built, f_productionCount, nI d, a_ruleOf, a_marked, a_symbolCount, a_symbols, a_roles, a_derives, a_first, a_follow, a_textLength, a_kindAt, a_valueAt, a_failsAt, a_expectedAt, a_roleAt, xp_w f s e a_scopeAt, a_openProduction, a_openNext, a_openStart, a_targetBefore)) (hP0 : ¬ gm_k G p = 1 → post (f_built, f_productionCount, nI d, a_ruleOf, a_marked, a_symbolCount, a_symbols, a_roles, a_derives, a_first, a_follow, a_textLength, a_kindAt, a_valueAt, a_failsAt, a_expectedAt, a_roleAt, a_scopeAt, a_openProduction, a_openNext, a_openStart, a_targetBefore)) : wpX_close post (f_built, f_productionCount, f_depth, a_ruleOf, a_marked, a_symbolCount, a_symbols, a_roles, a_derives, a_first, a_follow, a_textLength, a_kindAt, a_valueAt, a_failsAt, a_expectedAt, a_roleAt, a_scopeAt, a_openProduction, a_openNext, a_openStart, a_targetBefore) (nI f) (nI e) := by
  have h15 := gm_v14 hG hp
  have hk : gm_k G p ≤ 1 := by
    rcases hp with hp | rfl
    · exact (hG.2.1 p hp).2.2.1
    · rw [hG.2.2.2.2.2]; omega
  have c1 : (nI d).toNatClampNeg = d := nI_clamp (by omega)
  have c2 : (nI p).toNatClampNeg = p := nI_clamp (by omega)
  have i1 : vp_in (nI d) 121 := vp_in_nI (by omega) (by omega)
  subst e1
  unfold wpX_close
  dsimp only
  refine br_f (nI_ne0 (by omega) (by omega)) (nm_r (nI_pred d) ?_)
  rw [c1, e2, c2, (hx.2 p hp).2.1]
  refine ⟨i1, vp_in_nI h15 (by omega), pk_eq (gm_k G p) 0 (fun h => hP0 (by omega)) (fun h => ⟨i1, nm_r e3 ⟨e - s + 1, xp_cl49 hf hs he post (hP1 (by omega)) (e - s) s a_scopeAt (Nat.le_refl _) (by omega) (fun y => ?_)⟩⟩)⟩
  rw [if_neg (by omega)]
theorem xp_en3 (hG : gm_ok G) (hx : xg_ok G f_productionCount a_ruleOf a_marked a_symbolCount a_symbols a_roles) (hB : ∀ n, n < 6 → gm_ms (a_first n) (fun t => t ≤ 10 ∧ gm_FU G t n)) {d n c i : Nat} (hd : (∃ p, p < gm_n G ∧ gm_r G p = n ∧ gm_fq G c p 0) → d < 121) (he : f_depth = nI d) (hn : n < 6) (hc : c < 10) (post : SX → Prop) (hP1 : ∀ p, p < gm_n G → gm_r G p = n → gm_fq G c p 0 → post (f_built, f_productionCount, nI (d + 1), a_ruleOf, a_marked, a_symbolCount, a_symbols, a_roles, a_derives, a_first, a_follow, a_textLength, a_kindAt, a_valueAt, a_failsAt, a_expectedAt, a_roleAt, a_scopeAt, upd a_openProduction d (nI p), upd a_openNext d 0, upd a_openStart d (nI i), a_targetBefore)) (hP0 : (∀ p, p < gm_n G → gm_r G p = n → ¬ gm_fq G c p 0) → post (f_built, f_productionCount, f_depth, a_ruleOf, a_marked, a_symbolCount, a_symbols, a_roles, a_derives, a_first, a_follow, a_textLength, a_kindAt, a_valueAt, a_failsAt, a_expectedAt, a_roleAt, a_scopeAt, a_openProduction, a_openNext, a_openStart, a_targetBefore)) :
    ∀ e p, p + e = gm_n G → (∀ p', p' < p → gm_r G p' = n → ¬ gm_fq G c p' 0) → wX_enter_3 post (nI n) (nI c) (nI i) f_built f_productionCount f_depth a_ruleOf a_marked a_symbolCount a_symbols a_roles a_derives a_first a_follow a_textLength a_kindAt a_valueAt a_failsAt a_expectedAt a_roleAt a_scopeAt a_openProduction a_openNext a_openStart a_targetBefore (e + 1) (nI p) := by
  have h14 := hG.1
  have e0 := hx.1
  intro e
  induction e with
  | zero =>
    intro p hp hI
    rw [wX_enter_3]
    dsimp only
    exact br_t (by rw [e0]; exact nI_le (by omega) (by omega)) (hP0 (fun p' hp' => hI p' (by omega)))
  | succ e ih =>
    intro p hp hI
    have hv : gm_v G p := Or.inl (by omega)
    have h6 := gm_v6 hG hv
    have c1 : (nI p).toNatClampNeg = p := nI_clamp (by omega)
    have nx : (gm_r G p = n → ¬ gm_fq G c p 0) → wX_enter_3 post (nI n) (nI c) (nI i) f_built f_productionCount f_depth a_ruleOf a_marked a_symbolCount a_symbols a_roles a_derives a_first a_follow a_textLength a_kindAt a_valueAt a_failsAt a_expectedAt a_roleAt a_scopeAt a_openProduction a_openNext a_openStart a_targetBefore (e + 1) (nI (p + 1)) := fun h => ih (p + 1) (by omega) (fun p' hp' => by
      rcases Nat.lt_or_ge p' p with y | y
      · exact hI p' y
      · have e : p' = p := by omega
        subst e; exact h)
    rw [wX_enter_3]
    dsimp only
    rw [c1, (hx.2 p hv).1]
    refine br_f (by rw [e0]; exact nI_ge (by omega) (by omega)) ⟨vp_in_nI (by omega) (by omega), pk_eq (gm_r G p) n (fun h => ?_) (fun h => nm_r (nI_1 p) (nx (fun z => absurd z h)))⟩
    refine xb_fr (m := 0) hG hx hB hv (by omega) _ (fun r hr => ?_)
    have hb : bt r c = true ↔ gm_fq G c p 0 := ((hr c (by omega)).trans gm_xFU).trans ⟨fun z => z.elim id (fun y => by omega), Or.inl⟩
    rcases Classical.em (gm_fq G c p 0) with q | q
    · refine br_f (by rw [ba_t1 (by omega), hb.mpr q]; decide) ?_
      exact xp_op (hd ⟨p, by omega, h, q⟩) he _ (hP1 p (by omega) h q)
    · refine br_t ((ba_t1 (by omega)).mpr ?_) (nm_r (nI_1 p) (nx (fun _ => q)))
      cases hh : bt r c
      · rfl
      · exact absurd (hb.mp hh) q
theorem xp_en (hG : gm_ok G) (hx : xg_ok G f_productionCount a_ruleOf a_marked a_symbolCount a_symbols a_roles) (hB : ∀ n, n < 6 → gm_ms (a_first n) (fun t => t ≤ 10 ∧ gm_FU G t n)) {d n c i : Nat} (hd : (∃ p, p < gm_n G ∧ gm_r G p = n ∧ gm_fq G c p 0) → d < 121) (he : f_depth = nI d) (hn : n < 6) (hc : c < 10) (post : SX → Prop) (hP1 : ∀ p, p < gm_n G → gm_r G p = n → gm_fq G c p 0 → post (f_built, f_productionCount, nI (d + 1), a_ruleOf, a_marked, a_symbolCount, a_symbols, a_roles, a_derives, a_first, a_follow, a_textLength, a_kindAt, a_valueAt, a_failsAt, a_expectedAt, a_roleAt, a_scopeAt, upd a_openProduction d (nI p), upd a_openNext d 0, upd a_openStart d (nI i), a_targetBefore)) (hP0 : (∀ p, p < gm_n G → gm_r G p = n → ¬ gm_fq G c p 0) → post (f_built, f_productionCount, f_depth, a_ruleOf, a_marked, a_symbolCount, a_symbols, a_roles, a_derives, a_first, a_follow, a_textLength, a_kindAt, a_valueAt, a_failsAt, a_expectedAt, a_roleAt, a_scopeAt, a_openProduction, a_openNext, a_openStart, a_targetBefore)) : wpX_enter post (f_built, f_productionCount, f_depth, a_ruleOf, a_marked, a_symbolCount, a_symbols, a_roles, a_derives, a_first, a_follow, a_textLength, a_kindAt, a_valueAt, a_failsAt, a_expectedAt, a_roleAt, a_scopeAt, a_openProduction, a_openNext, a_openStart, a_targetBefore) (nI n) (nI c) (nI i) :=
  ⟨gm_n G + 1, xp_en3 hG hx hB hd he hn hc post hP1 hP0 (gm_n G) 0 (by omega) (fun p' h => by omega)⟩
end
end
section
/-! X's parse: take -/
def xp_M (G : gm_G) (w : Nat → Nat) (len f i d : Nat) (P X S : Nat → Nat) (RO SC : Nat → Int32) : Prop := dr_D G w 0 0 len → st_T G w len P X S d i ∧ mk_R G w len i (fun x => RO (f * 20 + x)) ∧ mk_S G w len i P S d (fun x => SC (f * 20 + x))
def xp_V (G : gm_G) (w : Nat → Nat) (len f i R d : Nat) (P X S : Nat → Nat) (OP ON OS RO SC : Nat → Int32) : Prop :=
  d ≤ 6 * i + 1 + (6 - R) ∧ R ≤ 6 ∧ xp_a P X S d OP ON OS ∧ st_ok G P X d ∧ st_s S d i ∧ st_I G w (i + 1) i P X d ∧ st_V G w (i + 1) i P X d ∧ (∀ e, d = e + 1 → st_J G (w i) R (P e) (X e)) ∧ xp_M G w len f i d P X S RO SC
def xp_H (G : gm_G) (w : Nat → Nat) (len f i d : Nat) (P X S : Nat → Nat) (OP ON OS RO SC : Nat → Int32) : Prop :=
  d ≤ 6 * i + 1 ∧ xp_a P X S d OP ON OS ∧ st_ok G P X d ∧ st_s S d i ∧ st_I G w i i P X d ∧ xp_M G w len f i d P X S RO SC
theorem xp_wc {f s e : Nat} {A : Nat → Int32} : (fun x => xp_w f s e A (f * 20 + x)) = mk_c (fun x => A (f * 20 + x)) s e := by
  funext x
  unfold xp_w mk_c
  exact ba_if ⟨fun h => ⟨by omega, by omega, h.2.2⟩, fun h => ⟨by omega, by omega, h.2.2⟩⟩
theorem xp_wo {f s e : Nat} {A : Nat → Int32} (he : e ≤ 20) : xo_r 20 f A (xp_w f s e A) := fun y hy => if_neg (by omega)
section
variable {G : gm_G} {w : Nat → Nat} {len f i R e : Nat} {P X S : Nat → Nat} {OP ON OS RO SC : Nat → Int32}
theorem xp_Vd {d : Nat} (hc : w i < 10) (h : xp_V G w len f i R d P X S OP ON OS RO SC) : ∃ e, d = e + 1 := by
  obtain ⟨w', j, a, b, c, q⟩ := h.2.2.2.2.2.2.1
  cases d with
  | zero =>
    have q : i = j := q
    subst q
    rw [a i (by omega)] at c
    omega
  | succ d => exact ⟨d, rfl⟩
/-- close -/
theorem xp_Vc (hG : gm_gd G) (hw : w len = 10) (hn : len ≤ 20) (hX : X e = gm_l G (P e)) (h : xp_V G w len f i R (e + 1) P X S OP ON OS RO SC) : (gm_k G (P e) = 1 → xp_V G w len f i R e P X S OP ON OS RO (xp_w f (S e) i SC)) ∧ (¬ gm_k G (P e) = 1 → xp_V G w len f i R e P X S OP ON OS RO SC) := by
  obtain ⟨h1, h2, h3, h4, h5, h6, h7, h8, h9⟩ := h
  have hR : R = 6 := by
    rcases h8 e rfl with z | ⟨m', a, b, _⟩
    · exact z
    · omega
  have base : ∀ SC', (dr_D G w 0 0 len → mk_S G w len i P S e (fun x => SC' (f * 20 + x))) → xp_V G w len f i R e P X S OP ON OS RO SC' := fun SC' hS =>
    ⟨by omega, h2, fun a ha => h3 a (by omega), st_cO h4, ⟨fun a b x y => h5.1 a b x (by omega), fun a ha => h5.2 a (by omega)⟩, st_cI hX h6, st_cV hX h7, fun _ _ => Or.inl hR, fun hd => ⟨(st_Tc hX (h9 hd).1).2, (h9 hd).2.1, hS hd⟩⟩
  refine ⟨fun hk => base _ (fun hd => ?_), fun hk => base _ (fun hd => mk_Su hG hw hn hk (h9 hd).2.2)⟩
  rw [xp_wc]
  exact mk_Sm hG hw hn hk h5 (st_Tc hX (h9 hd).1).1 (h9 hd).2.2
/-- a rule that cannot begin with the token -/
theorem xp_Vk (hG : gm_gd G) (hc : w i < 10) (hx : X e < gm_l G (P e)) (hs : 10 ≤ gm_s G (P e) (X e)) (hF : ¬ gm_F G (w i) (gm_s G (P e) (X e) - 10)) (h : xp_V G w len f i R (e + 1) P X S OP ON OS RO SC) : xp_V G w len f i R (e + 1) P (ud X e (X e + 1)) S OP (upd ON e (nI (X e + 1))) OS RO SC := by
  obtain ⟨h1, h2, h3, h4, h5, h6, h7, h8, h9⟩ := h
  obtain ⟨_, k1, k2⟩ := st_kI hG.1 h7 hx hs hF h6
  refine ⟨h1, h2, fun a ha => ?_, st_oS h4 hx, h5, k1, k2, fun e' he => ?_, fun hd => ⟨st_Tk hG hx hs hF (h9 hd).1, (h9 hd).2⟩⟩
  · obtain ⟨q1, q2, q3⟩ := h3 a ha
    refine ⟨q1, ?_, q3⟩
    rw [ba_up]; unfold ud; split
    · rfl
    · exact q2
  · have e2 : e' = e := by omega
    subst e2
    rw [ud_s]
    exact st_Jk hc (by omega) hF (h8 e' rfl)
/-- a rule that can -/
theorem xp_Ve (hG : gm_gd G) (hw : w len = 10) (hi : i < 20) (hc : w i < 10) (hx : X e < gm_l G (P e)) {p : Nat} (hp : p < gm_n G) (hr : gm_s G (P e) (X e) = 10 + gm_r G p) (hf : gm_fq G (w i) p 0) (h : xp_V G w len f i R (e + 1) P X S OP ON OS RO SC) : 1 ≤ R ∧ e + 1 < 121 ∧ xp_V G w len f i (R - 1) (e + 2) (ud P (e + 1) p) (ud (ud X e (X e + 1)) (e + 1) 0) (ud S (e + 1) i) (upd OP (e + 1) (nI p)) (upd (upd ON e (nI (X e + 1))) (e + 1) 0) (upd OS (e + 1) (nI i)) RO SC := by
  obtain ⟨h1, h2, h3, h4, h5, h6, h7, h8, h9⟩ := h
  have hF : gm_F G (w i) (gm_r G p) := gm_Fe.mpr ⟨(hG.1.2.1 p hp).1, hc, p, hp, rfl, hf.2⟩
  have hL := st_JF hG (h4.2 e (by omega)).1 hc hx hr hF (h8 e rfl)
  obtain ⟨j1, j2⟩ := st_Je hG hp hf hL
  obtain ⟨k1, k2⟩ := st_eI hG h4 h7 hx hp hr hf h6
  refine ⟨j1, by omega, by omega, by omega, fun a ha => ?_, st_eO h4 hx hp hr, st_sk (p := p) h5, k1, k2, fun e' he => ?_, fun hd => ⟨st_Te hG hw hx hp hr hf (h9 hd).1, (h9 hd).2.1, mk_Sk (h9 hd).2.2 h5⟩⟩
  · rcases Classical.em (a = e + 1) with q | q
    · subst q
      rw [pk_us, pk_us, pk_us, ud_s, ud_s, ud_s]
      exact ⟨rfl, rfl, rfl⟩
    · obtain ⟨q1, q2, q3⟩ := h3 a (by omega)
      rw [pk_un (f := OP) q, pk_un (f := upd ON e _) q, pk_un (f := OS) q, ud_n (f := P) q, ud_n (f := ud X e _) q, ud_n (f := S) q]
      refine ⟨q1, ?_, q3⟩
      rw [ba_up]; unfold ud; split
      · rfl
      · exact q2
  · have e2 : e' = e + 1 := by omega
    subst e2
    rw [ud_s, ud_s]
    exact j2
/-- a terminal: the token is taken -/
theorem xp_Vt (hG : gm_gd G) (hw : w len = 10) (hx : X e < gm_l G (P e)) (hs : gm_s G (P e) (X e) < 10) (h : xp_V G w len f i R (e + 1) P X S OP ON OS RO SC) : xp_H G w len f (i + 1) (e + 1) P (ud X e (X e + 1)) S OP (upd ON e (nI (X e + 1))) OS (upd RO (f * 20 + i) (nI (gm_o G (P e) (X e)))) SC := by
  obtain ⟨h1, h2, h3, h4, h5, h6, h7, h8, h9⟩ := h
  refine ⟨by omega, fun a ha => ?_, st_oS h4 hx, ⟨h5.1, fun a ha => by have := h5.2 a ha; omega⟩, (st_tI h7 hx hs h6).2, fun hd => ?_⟩
  · obtain ⟨q1, q2, q3⟩ := h3 a ha
    refine ⟨q1, ?_, q3⟩
    rw [ba_up]; unfold ud; split
    · rfl
    · exact q2
  · obtain ⟨m1, m2, m3⟩ := h9 hd
    obtain ⟨t1, t2⟩ := st_Tt hx hs m1
    refine ⟨t2, ?_, mk_St hG hw h5 t1 t2 m3⟩
    have q := mk_Rt t1 rfl m2
    have eq : (fun x => upd RO (f * 20 + i) (nI (gm_o G (P e) (X e))) (f * 20 + x)) = (fun x => if x = i then nI (gm_o G (P e) (X e)) else RO (f * 20 + x)) := funext (fun x => ba_if (by omega))
    rw [eq]
    exact q
end
section
variable {f_built f_productionCount f_depth : Int32} {a_ruleOf a_marked a_symbolCount a_symbols a_roles a_derives a_first a_follow a_textLength a_kindAt a_valueAt a_failsAt a_expectedAt a_roleAt a_scopeAt a_openProduction a_openNext a_openStart a_targetBefore : Nat → Int32} {G : gm_G}
theorem xp_tk10 (hG : gm_gd G) (hx : xg_ok G f_productionCount a_ruleOf a_marked a_symbolCount a_symbols a_roles) (hB : ∀ n, n < 6 → gm_ms (a_first n) (fun t => t ≤ 10 ∧ gm_FU G t n)) {w : Nat → Nat} {len f i : Nat} (hf : f < 4) (hi : i < 20) (hw : w len = 10) (hn : len ≤ 20) (hc : w i < 10) (hk : a_kindAt (f * 20 + i) = nI (w i)) {RO0 SC0 : Nat → Int32} (post : SX → Prop)
    (hP : ∀ d P X S OP ON OS RO SC, xp_H G w len f (i + 1) d P X S OP ON OS RO SC → xo_r 20 f RO0 RO → xo_r 20 f SC0 SC → post (f_built, f_productionCount, nI d, a_ruleOf, a_marked, a_symbolCount, a_symbols, a_roles, a_derives, a_first, a_follow, a_textLength, a_kindAt, a_valueAt, a_failsAt, a_expectedAt, RO, SC, OP, ON, OS, a_targetBefore)) :
    ∀ μ stp R d P X S OP ON OS RO SC, xp_V G w len f i R d P X S OP ON OS RO SC → xo_r 20 f RO0 RO → xo_r 20 f SC0 SC → st_m G P X d + 5 * R ≤ μ → stp + μ < 1000000 → wX_take_10 post (nI f) (nI i) (nI (f * 20 + i)) (μ + 1) (nI stp) f_built f_productionCount (nI d) a_ruleOf a_marked a_symbolCount a_symbols a_roles a_derives a_first a_follow a_textLength a_kindAt a_valueAt a_failsAt a_expectedAt RO SC OP ON OS a_targetBefore := by
  have iF : vp_in (nI (f * 20 + i)) 80 := vp_in_nI (by omega) (by omega)
  have cF : (nI (f * 20 + i)).toNatClampNeg = f * 20 + i := nI_clamp (by omega)
  intro μ
  induction μ with
  | zero =>
    intro stp R d P X S OP ON OS RO SC hV _ _ hm hs
    obtain ⟨e, rfl⟩ := xp_Vd hc hV
    unfold st_m at hm
    omega
  | succ μ ih =>
    intro stp R d P X S OP ON OS RO SC hV o1 o2 hm hs
    obtain ⟨e, rfl⟩ := xp_Vd hc hV
    have hV0 := hV
    obtain ⟨h1, h2, h3, h4, h5, h6, h7, h8, h9⟩ := hV
    obtain ⟨hv, hl, _⟩ := h4.2 e (by omega)
    obtain ⟨eP, eX, eS⟩ := h3 e (by omega)
    have h15 := gm_v14 hG.1 hv
    have hl4 := gm_vs hG.1 hv
    obtain ⟨_, _, e3, e4⟩ := hx.2 (P e) hv
    have hmm : st_m G P X (e + 1) = (gm_l G (P e) - X e + 1) + st_m G P X e := rfl
    have he : e < 121 := by omega
    have cE : (nI e).toNatClampNeg = e := nI_clamp (by omega)
    have iE : vp_in (nI e) 121 := vp_in_nI he (by omega)
    have cP : (nI (P e)).toNatClampNeg = P e := nI_clamp (by omega)
    have iP : vp_in (nI (P e)) 15 := vp_in_nI h15 (by omega)
    rw [wX_take_10]
    dsimp only
    refine br_f (nI_ge (b := 1000000) (by omega) (by omega)) (br_f (nI_nle (by omega) (by omega)) (nm_r (nI_pred e) ?_))
    rw [cE]
    refine ⟨iE, nm_r eP ⟨iE, nm_r eX ?_⟩⟩
    rw [cP, e3]
    refine ⟨iP, pk_lt (X e) (gm_l G (P e)) (fun hlt => ?_) (fun hge => ?_)⟩
    · have cS : (nI (P e * 4 + X e)).toNatClampNeg = P e * 4 + X e := nI_clamp (by omega)
      have iS : vp_in (nI (P e * 4 + X e)) 60 := vp_in_nI (by omega) (by omega)
      have h16 := hl4.2 _ hlt
      obtain ⟨s1, s2⟩ := e4 _ hlt
      have mx : st_m G P (ud X e (X e + 1)) (e + 1) + 1 = st_m G P X (e + 1) := by
        show (gm_l G (P e) - ud X e (X e + 1) e + 1) + st_m G P (ud X e (X e + 1)) e + 1 = _
        rw [ud_s, hmm, ← st_m_cg (P := P) (X := X) e (fun a ha => ⟨rfl, (ud_n (by omega)).symm⟩)]
        omega
      rw [ba_x4, cS, cF]
      refine ⟨iE, nm_r (congrArg _ (nI_1 (X e))) ⟨iS, nm_r s1 ?_⟩⟩
      refine pk_le 10 (gm_s G (P e) (X e)) (fun hge => ⟨iF, ?_⟩) (fun hlt2 => ⟨iS, iF, ?_⟩)
      · rw [ba_m10 hge, hk]
        refine xp_en hG.1 hx hB (d := e + 1) (fun ⟨p, q1, q2, q3⟩ => (xp_Ve hG hw hi hc hlt q1 (by omega) q3 hV0).2.1) rfl (by omega) hc _ (fun p q1 q2 q3 => ?_) (fun q => ?_)
        · obtain ⟨r1, r2, r3⟩ := xp_Ve hG hw hi hc hlt q1 (by omega) q3 hV0
          refine nm_r (nI_1 stp) (ih (stp + 1) (R - 1) (e + 2) _ _ _ _ _ _ _ _ r3 o1 o2 ?_ (by omega))
          have lp := (gm_vs hG.1 (p := p) (Or.inl q1)).1
          have my : st_m G (ud P (e + 1) p) (ud (ud X e (X e + 1)) (e + 1) 0) (e + 2) = (gm_l G p + 1) + st_m G P (ud X e (X e + 1)) (e + 1) := by
            show (gm_l G (ud P (e + 1) p (e + 1)) - ud (ud X e (X e + 1)) (e + 1) 0 (e + 1) + 1) + st_m G (ud P (e + 1) p) (ud (ud X e (X e + 1)) (e + 1) 0) (e + 1) = _
            rw [ud_s, ud_s, st_m_cg (P' := P) (X' := ud X e (X e + 1)) (e + 1) (fun a ha => ⟨ud_n (by omega), ud_n (by omega)⟩)]
            rfl
          omega
        · have hF : ¬ gm_F G (w i) (gm_s G (P e) (X e) - 10) := by
            intro z
            obtain ⟨_, t, p, a1, a2, a3⟩ := gm_Fe.mp z
            exact q p a1 a2 ⟨t, a3⟩
          exact nm_r (nI_1 stp) (ih (stp + 1) R (e + 1) _ _ _ _ _ _ _ _ (xp_Vk hG hc hlt hge hF hV0) o1 o2 (by omega) (by omega))
      · rw [s2 hlt2]
        exact nm_e (hP _ _ _ _ _ _ _ _ _ (xp_Vt hG hw hlt hlt2 hV0) (xo_rt o1 (xo_ru hi)) o2)
    · have hX : X e = gm_l G (P e) := by omega
      obtain ⟨v1, v0⟩ := xp_Vc hG hw hn hX hV0
      refine xp_cl hG.1 hx hf (h5.2 e (by omega)) (by omega) he hv rfl eP eS _ (fun hk1 => nm_r (nI_1 stp) (ih (stp + 1) R e _ _ _ _ _ _ _ _ (v1 hk1) o1 (xo_rt o2 (xp_wo (by omega))) (by omega) (by omega))) (fun hk0 => nm_r (nI_1 stp) (ih (stp + 1) R e _ _ _ _ _ _ _ _ (v0 hk0) o1 o2 (by omega) (by omega)))
theorem xp_tk (hG : gm_gd G) (hx : xg_ok G f_productionCount a_ruleOf a_marked a_symbolCount a_symbols a_roles) (hB : ∀ n, n < 6 → gm_ms (a_first n) (fun t => t ≤ 10 ∧ gm_FU G t n)) {w : Nat → Nat} {len f i : Nat} (hf : f < 4) (hi : i < 20) (hw : w len = 10) (hn : len ≤ 20) (hc : w i < 10) (hk : a_kindAt (f * 20 + i) = nI (w i)) {d : Nat} {P X S : Nat → Nat} (he : f_depth = nI d) (hH : xp_H G w len f i d P X S a_openProduction a_openNext a_openStart a_roleAt a_scopeAt) (hm : px_e G w i (w i)) (post : SX → Prop)
    (hP : ∀ d P X S OP ON OS RO SC, xp_H G w len f (i + 1) d P X S OP ON OS RO SC → xo_r 20 f a_roleAt RO → xo_r 20 f a_scopeAt SC → post (f_built, f_productionCount, nI d, a_ruleOf, a_marked, a_symbolCount, a_symbols, a_roles, a_derives, a_first, a_follow, a_textLength, a_kindAt, a_valueAt, a_failsAt, a_expectedAt, RO, SC, OP, ON, OS, a_targetBefore)) : wpX_take post (f_built, f_productionCount, f_depth, a_ruleOf, a_marked, a_symbolCount, a_symbols, a_roles, a_derives, a_first, a_follow, a_textLength, a_kindAt, a_valueAt, a_failsAt, a_expectedAt, a_roleAt, a_scopeAt, a_openProduction, a_openNext, a_openStart, a_targetBefore) (nI f) (nI i) := by
  obtain ⟨h1, h2, h3, h4, h5, h6⟩ := hH
  have hV : xp_V G w len f i 6 d P X S a_openProduction a_openNext a_openStart a_roleAt a_scopeAt := ⟨by omega, by omega, h2, h3, h4, fun w' j a b c => h5 w' j (fun x hx => a x (by omega)) b c, st_V1 h5 hm, fun _ _ => Or.inl rfl, h6⟩
  have hb := st_m_le (X := X) hG.1 d (fun a ha => (h3.2 a ha).1)
  subst he
  unfold wpX_take
  dsimp only
  refine nm_r (ba_x20 f i) ⟨5 * d + 30 + 1, ?_⟩
  exact xp_tk10 hG hx hB hf hi hw hn hc hk post hP (5 * d + 30) 0 6 d P X S _ _ _ _ _ hV xo_rr xo_rr (by omega) (by omega)
end
end
section
/-! X's parse: finish, parse -/
theorem px_e_le {G : gm_G} {w : Nat → Nat} {k t : Nat} (h : px_e G w k t) : t ≤ 10 := by
  obtain ⟨w', j, a, b, c, e, f⟩ := h
  rcases Nat.lt_or_ge k j with z | z
  · have := dr_lt10 f (Nat.zero_le _) z; omega
  · have q : k = j := by omega
    subst q; omega
theorem px_e_s {G : gm_G} {w : Nat → Nat} {n : Nat} (hw : w n = 10) : px_e G w n 10 ↔ dr_D G w 0 0 n := by
  constructor
  · intro ⟨w', j, a, b, c, e, f⟩
    rcases Nat.lt_or_ge n j with z | z
    · have := dr_lt10 f (Nat.zero_le _) z; omega
    · have q : n = j := by omega
      subst q
      exact dr_D_w (fun x _ hx => a x hx) f
  · intro h
    exact ⟨w, n, fun _ _ => rfl, hw, Nat.le_refl _, hw, h⟩
theorem px_e_dn {G : gm_G} {w : Nat → Nat} {i k t : Nat} (hi : i < k) (h : px_e G w k t) : px_e G w i (w i) := by
  obtain ⟨w', j, a, b, c, e, f⟩ := h
  exact ⟨w', j, fun x hx => a x (by omega), a i hi, by omega, e, f⟩
theorem px_e_d {G : gm_G} {w : Nat → Nat} {i n : Nat} (hw : w n = 10) (hi : i < n) (h : dr_D G w 0 0 n) : px_e G w i (w i) := px_e_dn hi ((px_e_s hw).mpr h)
theorem px_via {G : gm_G} (hG : gm_gd G) {w : Nat → Nat} {i d : Nat} {P X : Nat → Nat} (ho : st_ok G P X d) (hI : st_I G w i i P X d) : ∃ t, px_e G w i t := by
  obtain ⟨w', j, a, b, c, e⟩ := st_pr (X := X) hG d (fun a ha => (ho.2 a ha).1) w i
  exact ⟨w' i, w', j, a, rfl, b, c, (hI w' j a b c).mpr e⟩
def px_b (G : gm_G) (w : Nat → Nat) (n : Nat) (fa : Int32) : Prop := (dr_D G w 0 0 n ∧ fa = -1) ∨ (¬ dr_D G w 0 0 n ∧ ∃ k, k ≤ n ∧ fa = nI k ∧ (∃ t, px_e G w k t) ∧ (k < n → ¬ px_e G w k (w k)))
theorem px_bu {G : gm_G} {w : Nat → Nat} {n : Nat} {a b : Int32} (ha : px_b G w n a) (hb : px_b G w n b) : a = b := by
  rcases ha with ⟨x, y⟩ | ⟨x, k, k1, k2, ⟨t, k3⟩, k4⟩
  · rcases hb with ⟨_, y'⟩ | ⟨x', _⟩
    · rw [y, y']
    · exact absurd x x'
  · rcases hb with ⟨x', _⟩ | ⟨_, l, l1, l2, ⟨t', l3⟩, l4⟩
    · exact absurd x' x
    · rw [k2, l2]
      rcases Nat.lt_trichotomy k l with z | z | z
      · exact absurd (px_e_dn z l3) (k4 (by omega))
      · rw [z]
      · exact absurd (px_e_dn z k3) (l4 (by omega))
def xf_ok (G : gm_G) (w : Nat → Nat) (n : Nat) (fa : Int32) (ex ro sc : Nat → Int32) : Prop := (∀ k, k ≤ n → gm_ms (ex k) (px_e G w k)) ∧ px_b G w n fa ∧ (∀ x, x < 20 → ro x = nI (px_r G w n x)) ∧ (∀ x, x < 20 → sc x = nI (px_c G w n x) - 1)
theorem st_Tf {G : gm_G} (hG : gm_gd G) {w : Nat → Nat} {len : Nat} (hw : w len = 10) {P X S : Nat → Nat} {d : Nat} (hT : st_T G w len P X S (d + 1) len) : tr_N G w len d (P d) (S d) len ∧ st_T G w len P X S d len := by
  obtain ⟨e', a, b, c, f⟩ := hT
  have l := dr_S_le b
  have q := (tr_b hG hw d _ _ _ c).2.2.2.2
  have e : e' = len := by omega
  subst e
  exact ⟨c, f⟩
section
variable {f_built f_productionCount f_depth : Int32} {a_ruleOf a_marked a_symbolCount a_symbols a_roles a_derives a_first a_follow a_textLength a_kindAt a_valueAt a_failsAt a_expectedAt a_roleAt a_scopeAt a_openProduction a_openNext a_openStart a_targetBefore : Nat → Int32} {G : gm_G}
theorem xp_fi48 (hG : gm_gd G) (hx : xg_ok G f_productionCount a_ruleOf a_marked a_symbolCount a_symbols a_roles) {w : Nat → Nat} {len f : Nat} (hf : f < 4) (hw : w len = 10) (hn : len ≤ 20) {P X S : Nat → Nat} {SC0 : Nat → Int32} (post : SX → Prop) (hP : ∀ SC, mk_S G w len len P S 0 (fun x => SC (f * 20 + x)) → xo_r 20 f SC0 SC → post (f_built, f_productionCount, nI 0, a_ruleOf, a_marked, a_symbolCount, a_symbols, a_roles, a_derives, a_first, a_follow, a_textLength, a_kindAt, a_valueAt, a_failsAt, a_expectedAt, a_roleAt, SC, a_openProduction, a_openNext, a_openStart, a_targetBefore)) :
    ∀ c k d SC, k + c = 121 → d ≤ c → xp_a P X S d a_openProduction a_openNext a_openStart → (∀ a, a < d → gm_v G (P a)) → st_s S d len → st_T G w len P X S d len → mk_S G w len len P S d (fun x => SC (f * 20 + x)) → xo_r 20 f SC0 SC → wX_finish_48 post (nI f) (nI len) (c + 1) (nI k) f_built f_productionCount (nI d) a_ruleOf a_marked a_symbolCount a_symbols a_roles a_derives a_first a_follow a_textLength a_kindAt a_valueAt a_failsAt a_expectedAt a_roleAt SC a_openProduction a_openNext a_openStart a_targetBefore := by
  intro c
  induction c with
  | zero =>
    intro k d SC hk hd ha hv hs hT hM ho
    have e : d = 0 := by omega
    subst e
    rw [wX_finish_48]
    dsimp only
    exact br_t (nI_le (a := 121) (by omega) (by omega)) (hP SC hM ho)
  | succ c ih =>
    intro k d SC hk hd ha hv hs hT hM ho
    rw [wX_finish_48]
    dsimp only
    refine br_f (nI_ge (b := 121) (by omega) (by omega)) ?_
    cases d with
    | zero =>
      unfold wpX_close
      dsimp only
      exact br_t rfl (nm_r (nI_1 k) (ih (k + 1) 0 SC (by omega) (by omega) ha hv hs hT hM ho))
    | succ d =>
      obtain ⟨t1, t2⟩ := st_Tf hG hw hT
      have hs' : st_s S d len := ⟨fun a b x y => hs.1 a b x (by omega), fun a ha => hs.2 a (by omega)⟩
      refine xp_cl hG.1 hx hf (hs.2 d (by omega)) hn (by omega) (hv d (by omega)) rfl (ha d (by omega)).1 (ha d (by omega)).2.2 _ (fun hk1 => nm_r (nI_1 k) (ih (k + 1) d _ (by omega) (by omega) (fun a h => ha a (by omega)) (fun a h => hv a (by omega)) hs' t2 ?_ (xo_rt ho (xp_wo hn)))) (fun hk0 => nm_r (nI_1 k) (ih (k + 1) d _ (by omega) (by omega) (fun a h => ha a (by omega)) (fun a h => hv a (by omega)) hs' t2 (mk_Su hG hw hn hk0 hM) ho))
      rw [xp_wc]
      exact mk_Sm hG hw hn hk1 hs t1 hM
def xq_P (G : gm_G) (w : Nat → Nat) (len f : Nat) (FA0 EX0 RO0 SC0 FA EX RO SC : Nat → Int32) : Prop := xf_ok G w len (FA f) (fun k => EX (f * 21 + k)) (fun x => RO (f * 20 + x)) (fun x => SC (f * 20 + x)) ∧ (∀ g, g ≠ f → FA g = FA0 g) ∧ xo_r 21 f EX0 EX ∧ xo_r 20 f RO0 RO ∧ xo_r 20 f SC0 SC
/-- it fails at k -/
theorem xp_bad (hG : gm_gd G) {w : Nat → Nat} {len f k : Nat} (hf : f < 4) (hw : w len = 10) (hn : len ≤ 20) (hk : k ≤ len) {FA0 EX0 RO0 SC0 EX : Nat → Int32} (hno : ¬ dr_D G w 0 0 len) (hv : ∃ t, px_e G w k t) (hnx : k < len → ¬ px_e G w k (w k)) (hE : ∀ x, x ≤ k → gm_ms (EX (f * 21 + x)) (px_e G w x)) (hE0 : ∀ x, k < x → x < 21 → EX (f * 21 + x) = 0) (hEo : xo_r 21 f EX0 EX) (hRo : xo_r 20 f RO0 a_roleAt) (hSo : xo_r 20 f SC0 a_scopeAt) (post : SX → Prop) (hP : ∀ FA RO SC, xq_P G w len f FA0 EX0 RO0 SC0 FA EX RO SC → post (f_built, f_productionCount, f_depth, a_ruleOf, a_marked, a_symbolCount, a_symbols, a_roles, a_derives, a_first, a_follow, a_textLength, a_kindAt, a_valueAt, FA, EX, RO, SC, a_openProduction, a_openNext, a_openStart, a_targetBefore)) : wpX_clearMarks post (f_built, f_productionCount, f_depth, a_ruleOf, a_marked, a_symbolCount, a_symbols, a_roles, a_derives, a_first, a_follow, a_textLength, a_kindAt, a_valueAt, upd FA0 f (nI k), EX, a_roleAt, a_scopeAt, a_openProduction, a_openNext, a_openStart, a_targetBefore) (nI f) := by
  refine xp_cm hf post (fun RO SC h1 h2 h3 => hP _ RO SC ⟨⟨fun x hx => ?_, Or.inr ⟨hno, k, hk, pk_us, hv, hnx⟩, fun x hx => ?_, fun x hx => ?_⟩, fun g hg => pk_un hg, hEo, xo_rt hRo h2, xo_rt hSo h3⟩)
  · rcases Nat.lt_or_ge k x with z | z
    · intro t ht
      have : (fun k => EX (f * 21 + k)) x = 0 := hE0 x z (by omega)
      rw [this, b_0]
      exact ⟨fun q => absurd q (by decide), fun q => absurd (px_e_dn z q) (hnx (by omega))⟩
    · exact hE x z
  · rw [px_r0 hno]; exact (h1 x hx).1
  · rw [px_c0 hno]; exact (h1 x hx).2
theorem xp_fi (hG : gm_gd G) (hx : xg_ok G f_productionCount a_ruleOf a_marked a_symbolCount a_symbols a_roles) (hB : ∀ n, n < 6 → gm_ms (a_first n) (fun t => t ≤ 10 ∧ gm_FU G t n)) {w : Nat → Nat} {len f : Nat} (hf : f < 4) (hw : w len = 10) (hn : len ≤ 20) {d : Nat} {P X S : Nat → Nat} (he : f_depth = nI d) (hH : xp_H G w len f len d P X S a_openProduction a_openNext a_openStart a_roleAt a_scopeAt) {EX0 RO0 SC0 : Nat → Int32} (hE : ∀ x, x < len → gm_ms (a_expectedAt (f * 21 + x)) (px_e G w x)) (hE0 : ∀ x, len ≤ x → x < 21 → a_expectedAt (f * 21 + x) = 0) (hEo : xo_r 21 f EX0 a_expectedAt) (hRo : xo_r 20 f RO0 a_roleAt) (hSo : xo_r 20 f SC0 a_scopeAt) (post : SX → Prop) (hP : ∀ d FA EX RO SC, xq_P G w len f a_failsAt EX0 RO0 SC0 FA EX RO SC → post (f_built, f_productionCount, d, a_ruleOf, a_marked, a_symbolCount, a_symbols, a_roles, a_derives, a_first, a_follow, a_textLength, a_kindAt, a_valueAt, FA, EX, RO, SC, a_openProduction, a_openNext, a_openStart, a_targetBefore)) : wpX_finish post (f_built, f_productionCount, f_depth, a_ruleOf, a_marked, a_symbolCount, a_symbols, a_roles, a_derives, a_first, a_follow, a_textLength, a_kindAt, a_valueAt, a_failsAt, a_expectedAt, a_roleAt, a_scopeAt, a_openProduction, a_openNext, a_openStart, a_targetBefore) (nI f) (nI len) := by
  have hH0 := hH
  obtain ⟨h1, h2, h3, h4, h5, h6⟩ := hH
  have cE : (nI (f * 21 + len)).toNatClampNeg = f * 21 + len := nI_clamp (by omega)
  have iE : vp_in (nI (f * 21 + len)) 84 := vp_in_nI (by omega) (by omega)
  have cF : (nI f).toNatClampNeg = f := nI_clamp (by omega)
  have iF : vp_in (nI f) 4 := vp_in_nI (by omega) (by omega)
  unfold wpX_finish
  dsimp only
  rw [ba_x21, cE, cF]
  refine xp_fo hG.1 hx hB (by omega) he h3 h2 _ (fun r hr => ⟨iE, nm_e ?_⟩)
  have hr' : gm_ms r (px_e G w len) := gm_ms_if hr (fun t _ => st_mask hG h3 h5 t)
  have hE' : ∀ x, x ≤ len → gm_ms (upd a_expectedAt (f * 21 + len) r (f * 21 + x)) (px_e G w x) := by
    intro x hx
    rcases Nat.lt_or_ge x len with z | z
    · rw [pk_un (by omega)]; exact hE x z
    · have e : x = len := by omega
      subst e
      rw [pk_us]; exact hr'
  have hE0' : ∀ x, len < x → x < 21 → upd a_expectedAt (f * 21 + len) r (f * 21 + x) = 0 := fun x h1 h2 => by rw [pk_un (by omega)]; exact hE0 x (by omega) h2
  rcases Classical.em (dr_D G w 0 0 len) with hd | hd
  · have b10 : bt r 10 = true := (hr' 10 (by omega)).mpr ((px_e_s hw).mpr hd)
    obtain ⟨m1, m2, m3⟩ := h6 hd
    refine br_f (by rw [ba_t1024, b10]; decide) ⟨iF, nm_e ⟨121 + 1, ?_⟩⟩
    subst he
    refine xp_fi48 (X := X) hG hx hf hw hn post (fun SC q1 q2 => hP _ _ _ _ _ ⟨⟨hE', Or.inl ⟨hd, pk_us⟩, fun x hx => mk_endR hG hw hd m2 hx, fun x hx => mk_end hG hw hn hd q1 hx⟩, fun g hg => pk_un hg, xo_rt hEo (xo_ru (by omega)), hRo, q2⟩) 121 0 d a_scopeAt (by omega) (by omega) h2 (fun a ha => (h3.2 a ha).1) h4 m1 m3 hSo
  · have b10 : bt r 10 = false := by
      cases hh : bt r 10
      · rfl
      · exact absurd ((px_e_s hw).mp ((hr' 10 (by omega)).mp hh)) hd
    refine br_t (ba_t1024.mpr b10) ⟨iF, nm_e (xp_bad hG hf hw hn (Nat.le_refl _) hd (px_via hG h3 h5) (fun z => absurd z (Nat.lt_irrefl _)) hE' hE0' (xo_rt hEo (xo_ru (by omega))) hRo hSo _ (fun FA RO SC q => hP _ FA _ RO SC q))⟩
theorem xp_pa31 (hG : gm_gd G) (hx : xg_ok G f_productionCount a_ruleOf a_marked a_symbolCount a_symbols a_roles) (hB : ∀ n, n < 6 → gm_ms (a_first n) (fun t => t ≤ 10 ∧ gm_FU G t n)) {w : Nat → Nat} {len f : Nat} (hf : f < 4) (hw : w len = 10) (hn : len ≤ 20) (hK : ∀ x, x < len → a_kindAt (f * 20 + x) = nI (w x) ∧ w x < 10) {EX0 RO0 SC0 : Nat → Int32} (post : SX → Prop) (hP : ∀ d FA EX RO SC OP ON OS, xq_P G w len f a_failsAt EX0 RO0 SC0 FA EX RO SC → post (f_built, f_productionCount, d, a_ruleOf, a_marked, a_symbolCount, a_symbols, a_roles, a_derives, a_first, a_follow, a_textLength, a_kindAt, a_valueAt, FA, EX, RO, SC, OP, ON, OS, a_targetBefore)) :
    ∀ c i d P X S OP ON OS EX RO SC, i + c = len → xp_H G w len f i d P X S OP ON OS RO SC → (∀ x, x < i → gm_ms (EX (f * 21 + x)) (px_e G w x)) → (∀ x, i ≤ x → x < 21 → EX (f * 21 + x) = 0) → xo_r 21 f EX0 EX → xo_r 20 f RO0 RO → xo_r 20 f SC0 SC → wX_parse_31 post (nI f) (nI len) (c + 1) (nI i) f_built f_productionCount (nI d) a_ruleOf a_marked a_symbolCount a_symbols a_roles a_derives a_first a_follow a_textLength a_kindAt a_valueAt a_failsAt EX RO SC OP ON OS a_targetBefore := by
  intro c
  induction c with
  | zero =>
    intro i d P X S OP ON OS EX RO SC hi hH hE hE0 hEo hRo hSo
    have e : i = len := by omega
    subst e
    rw [wX_parse_31]
    dsimp only
    exact br_t (nI_le (by omega) (by omega)) (xp_fi hG hx hB hf hw hn rfl hH hE hE0 hEo hRo hSo _ (fun d FA EX RO SC q => hP d FA EX RO SC _ _ _ q))
  | succ c ih =>
    intro i d P X S OP ON OS EX RO SC hi hH hE hE0 hEo hRo hSo
    have hH0 := hH
    obtain ⟨h1, h2, h3, h4, h5, h6⟩ := hH
    obtain ⟨hk, hc⟩ := hK i (by omega)
    have cE : (nI (f * 21 + i)).toNatClampNeg = f * 21 + i := nI_clamp (by omega)
    have iE : vp_in (nI (f * 21 + i)) 84 := vp_in_nI (by omega) (by omega)
    have cK : (nI (f * 20 + i)).toNatClampNeg = f * 20 + i := nI_clamp (by omega)
    have iK : vp_in (nI (f * 20 + i)) 80 := vp_in_nI (by omega) (by omega)
    have cF : (nI f).toNatClampNeg = f := nI_clamp (by omega)
    have iF : vp_in (nI f) 4 := vp_in_nI (by omega) (by omega)
    rw [wX_parse_31]
    dsimp only
    rw [ba_x21, cE, ba_x20, cK, cF, hk]
    refine br_f (nI_ge (by omega) (by omega)) (xp_fo hG.1 hx hB (by omega) rfl h3 h2 _ (fun r hr => ⟨iE, nm_e ⟨iK, ?_⟩⟩))
    have hr' : gm_ms r (px_e G w i) := gm_ms_if hr (fun t _ => st_mask hG h3 h5 t)
    have hE' : ∀ x, x ≤ i → gm_ms (upd EX (f * 21 + i) r (f * 21 + x)) (px_e G w x) := by
      intro x hx
      rcases Nat.lt_or_ge x i with z | z
      · rw [pk_un (by omega)]; exact hE x z
      · have e : x = i := by omega
        subst e
        rw [pk_us]; exact hr'
    have hE0' : ∀ x, i < x → x < 21 → upd EX (f * 21 + i) r (f * 21 + x) = 0 := fun x h1 h2 => by rw [pk_un (by omega)]; exact hE0 x (by omega) h2
    rcases Classical.em (px_e G w i (w i)) with q | q
    · have b : bt r (w i) = true := (hr' _ (by omega)).mpr q
      refine br_f (by rw [ba_t1 (by omega), b]; decide) (xp_tk hG hx hB hf (by omega) hw hn hc hk rfl hH0 q _ (fun d P X S OP ON OS RO' SC' g1 g2 g3 => nm_r (nI_1 i) ?_))
      exact ih (i + 1) d P X S OP ON OS _ RO' SC' (by omega) g1 (fun x hx => hE' x (by omega)) (fun x h1 h2 => hE0' x (by omega) h2) (xo_rt hEo (xo_ru (by omega))) (xo_rt hRo g2) (xo_rt hSo g3)
    · have b : bt r (w i) = false := by
        cases hh : bt r (w i)
        · rfl
        · exact absurd ((hr' _ (by omega)).mp hh) q
      refine br_t ((ba_t1 (by omega)).mpr b) ⟨iF, nm_e ?_⟩
      exact xp_bad hG hf hw hn (by omega) (fun z => q (px_e_d hw (by omega) z)) (px_via hG h3 h5) (fun _ => q) hE' hE0' (xo_rt hEo (xo_ru (by omega))) hRo hSo _ (fun FA RO SC z => hP _ FA _ RO SC _ _ _ z)
theorem xp_pa (hG : gm_gd G) (hx : xg_ok G f_productionCount a_ruleOf a_marked a_symbolCount a_symbols a_roles) (hB : ∀ n, n < 6 → gm_ms (a_first n) (fun t => t ≤ 10 ∧ gm_FU G t n)) {w : Nat → Nat} {len f : Nat} (hf : f < 4) (hw : w len = 10) (hn : len ≤ 20) (hL : a_textLength f = nI len) (hK : ∀ x, x < len → a_kindAt (f * 20 + x) = nI (w x) ∧ w x < 10) (post : SX → Prop) (hP : ∀ d FA EX RO SC OP ON OS, xq_P G w len f a_failsAt a_expectedAt a_roleAt a_scopeAt FA EX RO SC → post (f_built, f_productionCount, d, a_ruleOf, a_marked, a_symbolCount, a_symbols, a_roles, a_derives, a_first, a_follow, a_textLength, a_kindAt, a_valueAt, FA, EX, RO, SC, OP, ON, OS, a_targetBefore)) : wpX_parse post (f_built, f_productionCount, f_depth, a_ruleOf, a_marked, a_symbolCount, a_symbols, a_roles, a_derives, a_first, a_follow, a_textLength, a_kindAt, a_valueAt, a_failsAt, a_expectedAt, a_roleAt, a_scopeAt, a_openProduction, a_openNext, a_openStart, a_targetBefore) (nI f) := by
  have cF : (nI f).toNatClampNeg = f := nI_clamp (by omega)
  have iF : vp_in (nI f) 4 := vp_in_nI (by omega) (by omega)
  unfold wpX_parse
  dsimp only
  refine xp_cm hf _ (fun RO SC a1 a2 a3 => xp_ce hf _ (fun EX b1 b2 => ?_))
  refine xp_op (d := 0) (p := 14) (i := 0) (by omega) rfl _ ?_
  dsimp only
  rw [cF]
  refine ⟨iF, nm_r hL ⟨len + 1, ?_⟩⟩
  refine xp_pa31 hG hx hB hf hw hn hK post hP len 0 1 (fun _ => 14) (fun _ => 0) (fun _ => 0) _ _ _ EX RO SC (by omega) ⟨by omega, fun a ha => ?_, ⟨rfl, fun a ha => ⟨Or.inr rfl, Nat.zero_le _, fun h => by omega⟩⟩, ⟨fun _ _ _ _ => Nat.le_refl _, fun _ _ => Nat.le_refl _⟩, fun w' j _ _ hj => ?_, fun hd => ⟨⟨len, rfl, ?_, ?_, rfl⟩, fun x hx => ⟨fun z => by omega, fun _ => (a1 x hx).1⟩, fun x hx => Or.inl (a1 x hx).2, fun x k p a b h => by omega⟩⟩ (fun x h => by omega) (fun x _ h => b1 x h) b2 a2 a3
  · have e : a = 0 := by omega
    subst e
    rw [pk_us, pk_us, pk_us]
    exact ⟨rfl, rfl, rfl⟩
  · have l14 := hG.1.2.2.2.1
    have s14 := hG.1.2.2.2.2.1
    constructor
    · intro z
      refine ⟨j, ?_, rfl⟩
      show dr_S G w' 14 (gm_l G 14 - 0) 0 0 j
      rw [l14]
      exact dr_1 (Or.inr ⟨by omega, by rw [s14]; exact z⟩)
    · intro ⟨k, z, e⟩
      have e : k = j := e
      subst e
      have z : dr_S G w' 14 (gm_l G 14 - 0) 0 0 k := z
      rw [l14] at z
      obtain ⟨q, z1, z2⟩ := z
      have z2 : q = k := z2
      subst z2
      rw [s14] at z1
      rcases z1 with ⟨z1, _⟩ | ⟨_, z1⟩
      · omega
      · exact z1
  · show dr_S G w 14 (gm_l G 14 - 0) 0 0 len
    rw [hG.1.2.2.2.1]
    exact dr_1 (Or.inr ⟨by rw [hG.1.2.2.2.2.1]; omega, by rw [hG.1.2.2.2.2.1]; exact hd⟩)
  · refine ⟨rfl, rfl, rfl, ?_⟩
    exact dr_1 (Or.inr ⟨by rw [hG.1.2.2.2.2.1]; omega, by rw [hG.1.2.2.2.2.1]; exact hd⟩)
end
end
section
/-! the pure state, and X against it -/
def tx_w (L K : Nat → Nat) (f x : Nat) : Nat := if x < L f then K (f * 20 + x) else 10
def tx_ok (L K V : Nat → Nat) : Prop := (∀ f, f < 4 → L f ≤ 20) ∧ ∀ x, x < 80 → K x < 10 ∧ V x < 16
def pr_ok (b : Bool) (G : gm_G) (L K V : Nat → Nat) : Prop := gm_ok G ∧ tx_ok L K V ∧ (b = true → gm_gd G) ∧ (b = false → ∀ f, f < 4 → L f = 0)
def rb (b : Bool) : Int32 := if b = true then 1 else 0
theorem rb_t : rb true = 1 := rfl
theorem rb_f : rb false = 0 := rfl
def rx_f (G : gm_G) (L K : Nat → Nat) (f : Nat) (FA EX RO SC : Nat → Int32) : Prop := xf_ok G (tx_w L K f) (L f) (FA f) (fun k => EX (f * 21 + k)) (fun x => RO (f * 20 + x)) (fun x => SC (f * 20 + x))
def rx_t (L K V : Nat → Nat) (a_textLength a_kindAt a_valueAt : Nat → Int32) : Prop := (∀ f, f < 4 → a_textLength f = nI (L f)) ∧ ∀ x, x < 80 → a_kindAt x = nI (K x) ∧ a_valueAt x = nI (V x)
def rx_R (b : Bool) (G : gm_G) (L K V : Nat → Nat) (u : SX) : Prop := match u with
  | (f_built, f_productionCount, f_depth, a_ruleOf, a_marked, a_symbolCount, a_symbols, a_roles, a_derives, a_first, a_follow, a_textLength, a_kindAt, a_valueAt, a_failsAt, a_expectedAt, a_roleAt, a_scopeAt, a_openProduction, a_openNext, a_openStart, a_targetBefore) => f_built = rb b ∧ xg_ok G f_productionCount a_ruleOf a_marked a_symbolCount a_symbols a_roles ∧ rx_t L K V a_textLength a_kindAt a_valueAt ∧ (b = true → (∀ n, n < 6 → gm_ms (a_first n) (fun t => t ≤ 10 ∧ gm_FU G t n)) ∧ ∀ f, f < 4 → rx_f G L K f a_failsAt a_expectedAt a_roleAt a_scopeAt) ∧ (b = false → ∀ x, x < 80 → a_roleAt x = 0)
theorem tx_wn {L K : Nat → Nat} {f : Nat} : tx_w L K f (L f) = 10 := if_neg (Nat.lt_irrefl _)
theorem tx_wk {L K V : Nat → Nat} (h : tx_ok L K V) {a_textLength a_kindAt a_valueAt : Nat → Int32} (hr : rx_t L K V a_textLength a_kindAt a_valueAt) {f : Nat} (hf : f < 4) : ∀ x, x < L f → a_kindAt (f * 20 + x) = nI (tx_w L K f x) ∧ tx_w L K f x < 10 := by
  intro x hx
  have l := h.1 f hf
  unfold tx_w
  rw [if_pos hx]
  exact ⟨(hr.2 _ (by omega)).1, (h.2 _ (by omega)).1⟩
section
variable {f_built f_productionCount f_depth : Int32} {a_ruleOf a_marked a_symbolCount a_symbols a_roles a_derives a_first a_follow a_textLength a_kindAt a_valueAt a_failsAt a_expectedAt a_roleAt a_scopeAt a_openProduction a_openNext a_openStart a_targetBefore : Nat → Int32} {G : gm_G} {L K V : Nat → Nat}
theorem xm_parse (hG : gm_gd G) (hT : tx_ok L K V) (hx : xg_ok G f_productionCount a_ruleOf a_marked a_symbolCount a_symbols a_roles) (hr : rx_t L K V a_textLength a_kindAt a_valueAt) (hB : ∀ n, n < 6 → gm_ms (a_first n) (fun t => t ≤ 10 ∧ gm_FU G t n)) {f : Nat} (hf : f < 4) (post : SX → Prop) (hP : ∀ d FA EX RO SC OP ON OS, rx_f G L K f FA EX RO SC → (∀ g, g < 4 → g ≠ f → rx_f G L K g a_failsAt a_expectedAt a_roleAt a_scopeAt → rx_f G L K g FA EX RO SC) → post (f_built, f_productionCount, d, a_ruleOf, a_marked, a_symbolCount, a_symbols, a_roles, a_derives, a_first, a_follow, a_textLength, a_kindAt, a_valueAt, FA, EX, RO, SC, OP, ON, OS, a_targetBefore)) : wpX_parse post (f_built, f_productionCount, f_depth, a_ruleOf, a_marked, a_symbolCount, a_symbols, a_roles, a_derives, a_first, a_follow, a_textLength, a_kindAt, a_valueAt, a_failsAt, a_expectedAt, a_roleAt, a_scopeAt, a_openProduction, a_openNext, a_openStart, a_targetBefore) (nI f) := by
  refine xp_pa hG hx hB hf tx_wn (hT.1 f hf) (hr.1 f hf) (tx_wk hT hr hf) post (fun d FA EX RO SC OP ON OS ⟨h1, h2, h3, h4, h5⟩ => hP d FA EX RO SC OP ON OS h1 (fun g hg hgf q => ?_))
  obtain ⟨q1, q2, q3, q4⟩ := q
  have l := hT.1 g hg
  refine ⟨fun k hk => ?_, by rw [h2 g hgf]; exact q2, fun x hx => ?_, fun x hx => ?_⟩
  · show gm_ms (EX (g * 21 + k)) _
    rw [h3 _ (by omega)]; exact q1 k hk
  · show RO (g * 20 + x) = _
    rw [h4 _ (by omega)]; exact q3 x hx
  · show SC (g * 20 + x) = _
    rw [h5 _ (by omega)]; exact q4 x hx
theorem xm_build58 (hG : gm_gd G) (hT : tx_ok L K V) (hx : xg_ok G f_productionCount a_ruleOf a_marked a_symbolCount a_symbols a_roles) (hr : rx_t L K V a_textLength a_kindAt a_valueAt) (hB : ∀ n, n < 6 → gm_ms (a_first n) (fun t => t ≤ 10 ∧ gm_FU G t n)) (hb : f_built = 1) (post : Int32 → SX → Prop) (hP : ∀ u, rx_R true G L K V u → post 0 u) :
    ∀ c k d FA EX RO SC OP ON OS, k + c = 4 → (∀ g, g < k → rx_f G L K g FA EX RO SC) → wX_build_58 post (c + 1) (nI k) f_built f_productionCount d a_ruleOf a_marked a_symbolCount a_symbols a_roles a_derives a_first a_follow a_textLength a_kindAt a_valueAt FA EX RO SC OP ON OS a_targetBefore := by
  intro c
  induction c with
  | zero =>
    intro k d FA EX RO SC OP ON OS hk hI
    rw [wX_build_58]
    dsimp only
    refine br_t (nI_le (a := 4) (by omega) (by omega)) (hP _ ⟨hb, hx, hr, fun _ => ⟨hB, fun f hf => hI f (by omega)⟩, fun h => nomatch h⟩)
  | succ c ih =>
    intro k d FA EX RO SC OP ON OS hk hI
    rw [wX_build_58]
    dsimp only
    refine br_f (nI_ge (b := 4) (by omega) (by omega)) (xm_parse hG hT hx hr hB (by omega) _ (fun d FA' EX' RO' SC' OP ON OS h1 h2 => nm_r (nI_1 k) (ih (k + 1) _ _ _ _ _ _ _ _ (by omega) (fun g hg => ?_))))
    rcases Nat.lt_or_ge g k with z | z
    · exact h2 g (by omega) (by omega) (hI g z)
    · have e : g = k := by omega
      subst e; exact h1
end
/-- what build answers, and whether the grammar is built then -/
def bd_r (G : gm_G) (r : Int32) (b : Bool) : Prop := (∃ n, n < 6 ∧ gm_us G n ∧ ¬ gm_M G n ∧ (∀ n', n' < n → gm_us G n' → gm_M G n') ∧ r = nI (16 + n) ∧ b = false) ∨ ((∀ n, n < 6 → gm_us G n → gm_M G n) ∧ ((∃ q, q < gm_n G ∧ gm_cl G q ∧ (∀ q', q' < q → ¬ gm_cl G q') ∧ r = nI (32 + q) ∧ b = false) ∨ ((∀ q, q < gm_n G → ¬ gm_cl G q) ∧ r = 0 ∧ b = true)))
theorem bd_u {G : gm_G} {r r' : Int32} {b b' : Bool} (h : bd_r G r b) (h' : bd_r G r' b') : r = r' ∧ b = b' := by
  rcases h with ⟨n, a1, a2, a3, a4, a5, a6⟩ | ⟨a1, ⟨q, a2, a3, a4, a5, a6⟩ | ⟨a2, a3, a4⟩⟩
  · rcases h' with ⟨n', b1, b2, b3, b4, b5, b6⟩ | ⟨b1, _⟩
    · have e : n = n' := by
        rcases Nat.lt_trichotomy n n' with z | z | z
        · exact absurd (b4 n z a2) a3
        · exact z
        · exact absurd (a4 n' z b2) b3
      subst e
      exact ⟨a5.trans b5.symm, a6.trans b6.symm⟩
    · exact absurd (b1 n a1 a2) a3
  · rcases h' with ⟨n', b1, b2, b3, b4, b5, b6⟩ | ⟨_, ⟨q', b2, b3, b4, b5, b6⟩ | ⟨b2, b3, b4⟩⟩
    · exact absurd (a1 n' b1 b2) b3
    · have e : q = q' := by
        rcases Nat.lt_trichotomy q q' with z | z | z
        · exact absurd a3 (b4 q z)
        · exact z
        · exact absurd b3 (a4 q' z)
      subst e
      exact ⟨a5.trans b5.symm, a6.trans b6.symm⟩
    · exact absurd a3 (b2 q a2)
  · rcases h' with ⟨n', b1, b2, b3, b4, b5, b6⟩ | ⟨_, ⟨q', b2, b3, b4, b5, b6⟩ | ⟨b2, b3, b4⟩⟩
    · exact absurd (a1 n' b1 b2) b3
    · exact absurd b3 (a2 q' b2)
    · exact ⟨a3.trans b3.symm, a4.trans b4.symm⟩
theorem bd_g {G : gm_G} (hG : gm_ok G) {r : Int32} (h : bd_r G r true) : gm_gd G := by
  rcases h with ⟨n, _, _, _, _, _, a⟩ | ⟨a1, ⟨q, _, _, _, _, a⟩ | ⟨a2, a3, a4⟩⟩
  · exact nomatch a
  · exact nomatch a
  · exact ⟨hG, a1, fun q p t h1 h2 h3 h4 h5 h6 => a2 q h1 ⟨p, h2, h3, t, h4, h5, h6⟩⟩
section
variable {G : gm_G} {L K V : Nat → Nat}
theorem xm_build {u : SX} (hG : gm_ok G) (hT : tx_ok L K V) (hX : rx_R false G L K V u) (post : Int32 → SX → Prop) (hP : ∀ r b u', bd_r G r b → rx_R b G L K V u' → post r u') : wpX_build post u := by
  obtain ⟨f_built, f_productionCount, f_depth, a_ruleOf, a_marked, a_symbolCount, a_symbols, a_roles, a_derives, a_first, a_follow, a_textLength, a_kindAt, a_valueAt, a_failsAt, a_expectedAt, a_roleAt, a_scopeAt, a_openProduction, a_openNext, a_openStart, a_targetBefore⟩ := u
  obtain ⟨h1, h2, h3, _, h5⟩ := hX
  have h5 := h5 rfl
  rw [rb_f] at h1
  unfold wpX_build
  dsimp only
  refine br_t h1 (xb_fd hG h2 _ (fun D hD => xb_lb hG h2 hD _ (fun r hr => ?_)))
  rcases hr with ⟨n, a1, a2, a3, a4, a5⟩ | ⟨a1, a2⟩
  · subst a5
    refine br_f (fun z => ?_) (hP _ false _ (Or.inl ⟨n, a1, a2, a3, a4, ?_, rfl⟩) ⟨h1, h2, h3, (fun h => nomatch h), fun _ => h5⟩)
    · have := nI_pos' (n := n) (by omega)
      rw [z] at this
      exact absurd this (by decide)
    · rw [show (16 : Int32) = nI 16 from rfl, nI_add]
  · refine br_t a2 (xb_ff hG h2 _ (fun F hF => xb_fw hG h2 hF _ (fun W hW => xb_lc hG h2 hF hW _ (fun r' hr' => ?_))))
    rcases hr' with ⟨q, b1, b2, b3, b4⟩ | ⟨b1, b2⟩
    · subst b4
      have h14 := hG.1
      refine br_f (fun z => ?_) (hP _ false _ (Or.inr ⟨a1, Or.inl ⟨q, b1, b2, b3, ?_, rfl⟩⟩) ⟨h1, h2, h3, (fun h => nomatch h), fun _ => h5⟩)
      · have := nI_pos' (n := q) (by omega)
        rw [z] at this
        exact absurd this (by decide)
      · rw [show (32 : Int32) = nI 32 from rfl, nI_add]
    · have hb : bd_r G 0 true := Or.inr ⟨a1, Or.inr ⟨b1, rfl, rfl⟩⟩
      exact br_t b2 ⟨4 + 1, xm_build58 (bd_g hG hb) hT h2 h3 hF rfl post (fun u hu => hP 0 true u hb hu) 4 0 _ _ _ _ _ _ _ _ (by omega) (fun g hg => by omega)⟩
theorem xm_built {u : SX} (hX : rx_R true G L K V u) (post : Int32 → SX → Prop) (hP : post 1 u) : wpX_build post u := by
  obtain ⟨f_built, f_productionCount, f_depth, a_ruleOf, a_marked, a_symbolCount, a_symbols, a_roles, a_derives, a_first, a_follow, a_textLength, a_kindAt, a_valueAt, a_failsAt, a_expectedAt, a_roleAt, a_scopeAt, a_openProduction, a_openNext, a_openStart, a_targetBefore⟩ := u
  obtain ⟨h1, _⟩ := hX
  rw [rb_t] at h1
  unfold wpX_build
  dsimp only
  exact br_f (by rw [h1]; decide) hP
end
end
section
/-! Y's build: learn -/
def yg_ok (G : gm_G) (f_np : Int32) (a_pRule a_pScope a_pLen a_sym a_role : Nat → Int32) : Prop :=
  f_np = nI (gm_n G) ∧ ∀ p, p < gm_n G → a_pRule p = nI (gm_r G p) ∧ a_pScope p = nI (gm_k G p) ∧ a_pLen p = nI (gm_l G p) ∧ ∀ m, m < gm_l G p → a_sym (p * 4 + m) = nI (gm_s G p m) ∧ (gm_s G p m < 10 → a_role (p * 4 + m) = nI (gm_o G p m))
theorem gm_p0 {G : gm_G} (hG : gm_ok G) {p : Nat} (hp : p < gm_n G) : p < 14 ∧ gm_r G p < 6 ∧ gm_l G p ≤ 4 ∧ ∀ m, m < gm_l G p → gm_s G p m < 16 := by
  have h := hG.2.1 p hp
  have := hG.1
  exact ⟨by omega, h.1, h.2.1, fun m hm => (h.2.2.2 m hm).1⟩
theorem gm_pn_x {G : gm_G} {E : Nat → Prop} {p m l : Nat} (h : l ≤ m) : gm_pn G E p m l := fun k a b => by omega
section
variable {f_np f_built f_some f_empty f_wn f_nt : Int32} {a_pRule a_pScope a_pLen a_sym a_role a_first a_follow a_kind a_val a_len a_word a_reach a_beyond a_way a_known a_bad a_part a_scopes a_inner a_tRule a_tFrom a_tTo a_before : Nat → Int32} {G : gm_G}
theorem ym_ef2 (hG : gm_ok G) (hy : yg_ok G f_np a_pRule a_pScope a_pLen a_sym a_role) {p : Nat} (hp : p < gm_n G) (post : Int32 → Prop) :
    ∀ d m, m + d = gm_l G p → (gm_pn G (fun n => bt f_empty n = true) p m (gm_l G p) → post 1) → (¬ gm_pn G (fun n => bt f_empty n = true) p m (gm_l G p) → post 0) → wY_emptyFrom_2 post (nI p) f_np f_built f_some f_empty f_wn f_nt a_pRule a_pScope a_pLen a_sym a_role a_first a_follow a_kind a_val a_len a_word a_reach a_beyond a_way a_known a_bad a_part a_scopes a_inner a_tRule a_tFrom a_tTo a_before (d + 1) (nI m) := by
  obtain ⟨h14, h6, hl, hs⟩ := gm_p0 hG hp
  obtain ⟨_, _, e3, e4⟩ := hy.2 p hp
  have i1 : vp_in (nI p) 14 := vp_in_nI h14 (by omega)
  have c1 : (nI p).toNatClampNeg = p := nI_clamp (by omega)
  intro d
  induction d with
  | zero =>
    intro m hm h1 h0
    rw [wY_emptyFrom_2]
    dsimp only
    rw [c1, e3]
    exact ⟨i1, br_t (nI_le (by omega) (by omega)) (h1 (gm_pn_x (by omega)))⟩
  | succ d ih =>
    intro m hm h1 h0
    have h16 := hs m (by omega)
    have c2 : (nI (p * 4 + m)).toNatClampNeg = p * 4 + m := nI_clamp (by omega)
    have i2 : vp_in (nI (p * 4 + m)) 56 := vp_in_nI (by omega) (by omega)
    rw [wY_emptyFrom_2]
    dsimp only
    rw [c1, e3, ba_4x, c2, (e4 m (by omega)).1]
    refine ⟨i1, br_f (nI_ge (by omega) (by omega)) ⟨i2, ?_⟩⟩
    rw [gm_pn_e (by omega)] at h1 h0
    rcases Nat.lt_or_ge (gm_s G p m) 10 with z | z
    · exact br_t (nI_lt (b := 10) z (by omega)) (h0 (fun q => by omega))
    · refine br_f (nI_nlt (b := 10) z (by omega)) ⟨i2, ?_⟩
      rw [ba_m10 z]
      rcases Classical.em (bt f_empty (gm_s G p m - 10) = true) with q | q
      · refine br_f (by rw [ba_sh (by omega), q]; decide) (nm_r (nI_1 m) (ih (m + 1) (by omega) (fun x => h1 ⟨z, q, x⟩) (fun x => h0 (fun y => x y.2.2))))
      · exact br_t ((ba_sh (by omega)).mpr (by cases h : bt f_empty (gm_s G p m - 10) <;> simp_all)) (h0 (fun y => q y.2.1))
theorem ym_ef (hG : gm_ok G) (hy : yg_ok G f_np a_pRule a_pScope a_pLen a_sym a_role) {p m : Nat} (hp : p < gm_n G) (hm : m ≤ gm_l G p) (post : Int32 → Prop) (h1 : gm_pn G (fun n => bt f_empty n = true) p m (gm_l G p) → post 1) (h0 : ¬ gm_pn G (fun n => bt f_empty n = true) p m (gm_l G p) → post 0) : wpY_emptyFrom post (f_np, f_built, f_some, f_empty, f_wn, f_nt, a_pRule, a_pScope, a_pLen, a_sym, a_role, a_first, a_follow, a_kind, a_val, a_len, a_word, a_reach, a_beyond, a_way, a_known, a_bad, a_part, a_scopes, a_inner, a_tRule, a_tFrom, a_tTo, a_before) (nI p) (nI m) :=
  ⟨gm_l G p - m + 1, ym_ef2 hG hy hp post (gm_l G p - m) m (by omega) h1 h0⟩
theorem ym_ff5 (hG : gm_ok G) (hy : yg_ok G f_np a_pRule a_pScope a_pLen a_sym a_role) (hF : ∀ n, n < 6 → ∀ t, t < 32 → bt (a_first n) t = true → t < 10) {p : Nat} (hp : p < gm_n G) (post : Int32 → Prop) :
    ∀ d m x3, m + d = gm_l G p → (∀ r, gm_ms r (fun t => bt x3 t = true ∨ (t < 10 ∧ gm_fs G (fun n => bt f_empty n = true) (fun n => bt (a_first n) t = true) t p m)) → post r) → wY_firstFrom_5 post (nI p) f_np f_built f_some f_empty f_wn f_nt a_pRule a_pScope a_pLen a_sym a_role a_first a_follow a_kind a_val a_len a_word a_reach a_beyond a_way a_known a_bad a_part a_scopes a_inner a_tRule a_tFrom a_tTo a_before (d + 1) x3 (nI m) := by
  obtain ⟨h14, h6, hl, hs⟩ := gm_p0 hG hp
  obtain ⟨_, _, e3, e4⟩ := hy.2 p hp
  have i1 : vp_in (nI p) 14 := vp_in_nI h14 (by omega)
  have c1 : (nI p).toNatClampNeg = p := nI_clamp (by omega)
  intro d
  induction d with
  | zero =>
    intro m x3 hm hP
    rw [wY_firstFrom_5]
    dsimp only
    rw [c1, e3]
    refine ⟨i1, br_t (nI_le (by omega) (by omega)) (hP x3 (fun t ht => ⟨Or.inl, fun h => h.elim id (fun ⟨_, m', a, b, _⟩ => ?_)⟩))⟩
    omega
  | succ d ih =>
    intro m x3 hm hP
    have h16 := hs m (by omega)
    have hm2 : m < gm_l G p := by omega
    have c2 : (nI (p * 4 + m)).toNatClampNeg = p * 4 + m := nI_clamp (by omega)
    have i2 : vp_in (nI (p * 4 + m)) 56 := vp_in_nI (by omega) (by omega)
    rw [wY_firstFrom_5]
    dsimp only
    rw [c1, e3, ba_4x, c2, (e4 m (by omega)).1]
    refine ⟨i1, br_f (nI_ge (by omega) (by omega)) ⟨i2, nm_e ?_⟩⟩
    rcases Nat.lt_or_ge (gm_s G p m) 10 with z | z
    · refine br_f (nI_ge (b := 10) z (by omega)) ?_
      unfold wY_firstFrom_54
      refine nm_e (br_t (nI_lt (b := 10) z (by omega)) (hP _ (fun t ht => ?_)))
      dsimp only
      rw [b_or, ba_one _ (by omega) t ht, Bool.or_eq_true, decide_eq_true_iff, gm_fs_e]
      constructor
      · rintro (h | h)
        · exact Or.inl h
        · exact Or.inr ⟨by omega, hm2, Or.inl h.symm⟩
      · rintro (h | ⟨_, _, h | h | h⟩)
        · exact Or.inl h
        · exact Or.inr h.symm
        · omega
        · omega
    · have c3 : (nI (gm_s G p m - 10)).toNatClampNeg = gm_s G p m - 10 := nI_clamp (by omega)
      refine br_t (nI_le (a := 10) z (by omega)) ?_
      unfold wY_firstFrom_54
      rw [ba_m10 z, c3]
      refine ⟨vp_in_nI (by omega) (by omega), nm_e (br_f (nI_nlt (b := 10) z (by omega)) ?_)⟩
      have hf := hF (gm_s G p m - 10) (by omega)
      rcases Classical.em (bt f_empty (gm_s G p m - 10) = true) with q | q
      · refine br_f (by rw [ba_sh (by omega), q]; decide) (nm_r (nI_1 m) (ih (m + 1) _ (by omega) (fun r hr => hP r (fun t ht => ?_))))
        rw [hr t ht]
        dsimp only
        rw [b_or, Bool.or_eq_true, gm_fs_e (m := m)]
        constructor
        · rintro ((h | h) | ⟨h1, h2⟩)
          · exact Or.inl h
          · exact Or.inr ⟨hf t ht h, hm2, Or.inr (Or.inl ⟨z, h⟩)⟩
          · exact Or.inr ⟨h1, hm2, Or.inr (Or.inr ⟨z, q, h2⟩)⟩
        · rintro (h | ⟨h1, _, h | h | h⟩)
          · exact Or.inl (Or.inl h)
          · omega
          · exact Or.inl (Or.inr h.2)
          · exact Or.inr ⟨h1, h.2.2⟩
      · refine br_t ((ba_sh (by omega)).mpr (by cases h : bt f_empty (gm_s G p m - 10) <;> simp_all)) (hP _ (fun t ht => ?_))
        dsimp only
        rw [b_or, Bool.or_eq_true, gm_fs_e]
        constructor
        · rintro (h | h)
          · exact Or.inl h
          · exact Or.inr ⟨hf t ht h, hm2, Or.inr (Or.inl ⟨z, h⟩)⟩
        · rintro (h | ⟨h1, _, h | h | h⟩)
          · exact Or.inl h
          · omega
          · exact Or.inr h.2
          · exact absurd h.2.1 q
theorem ym_ff (hG : gm_ok G) (hy : yg_ok G f_np a_pRule a_pScope a_pLen a_sym a_role) (hF : ∀ n, n < 6 → ∀ t, t < 32 → bt (a_first n) t = true → t < 10) {p m : Nat} (hp : p < gm_n G) (hm : m ≤ gm_l G p) (post : Int32 → Prop) (hP : ∀ r, gm_ms r (fun t => t < 10 ∧ gm_fs G (fun n => bt f_empty n = true) (fun n => bt (a_first n) t = true) t p m) → post r) : wpY_firstFrom post (f_np, f_built, f_some, f_empty, f_wn, f_nt, a_pRule, a_pScope, a_pLen, a_sym, a_role, a_first, a_follow, a_kind, a_val, a_len, a_word, a_reach, a_beyond, a_way, a_known, a_bad, a_part, a_scopes, a_inner, a_tRule, a_tFrom, a_tTo, a_before) (nI p) (nI m) := by
  refine ⟨gm_l G p - m + 1, ym_ff5 hG hy hF hp post (gm_l G p - m) m 0 (by omega) (fun r hr => hP r (fun t ht => ?_))⟩
  rw [hr t ht]
  dsimp only
  rw [b_0]
  simp
end
/-! learn -/
def yl_s (G : gm_G) (sm em : Int32) (F W : Nat → Int32) : Prop := (∀ n, n < 32 → bt sm n = true → gm_M G n) ∧ (∀ n, n < 32 → bt em n = true → gm_U G n) ∧ (∀ n, n < 6 → ∀ t, t < 32 → bt (F n) t = true → gm_F G t n) ∧ (∀ n, n < 6 → ∀ t, t < 32 → bt (W n) t = true → gm_W G t n)
def yl_k (sm em : Int32) (F W : Nat → Int32) (sm' em' : Int32) (F' W' : Nat → Int32) : Prop := (∀ n, bt sm n = true → bt sm' n = true) ∧ (∀ n, bt em n = true → bt em' n = true) ∧ (∀ n, n < 6 → ∀ t, bt (F n) t = true → bt (F' n) t = true) ∧ (∀ n, n < 6 → ∀ t, bt (W n) t = true → bt (W' n) t = true)
/-- the lower bounds -/
def yl_q (QM QU : Nat → Prop) (QF QW : Nat → Nat → Prop) (sm em : Int32) (F W : Nat → Int32) : Prop := (∀ n, QM n → bt sm n = true) ∧ (∀ n, QU n → bt em n = true) ∧ (∀ t n, QF t n → n < 6 ∧ t < 10 ∧ bt (F n) t = true) ∧ (∀ t n, QW t n → n < 6 ∧ t < 32 ∧ bt (W n) t = true)
def yl_w (G : gm_G) (QU : Nat → Prop) (QF QW : Nat → Nat → Prop) (W : Nat → Int32) (p m : Nat) : Prop := ∀ n t, gm_s G p m = 10 + n → (t < 10 ∧ gm_fs G QU (QF t) t p (m + 1) ∨ gm_pn G QU p (m + 1) (gm_l G p) ∧ QW t (gm_r G p)) → bt (W n) t = true
def yl_c (G : gm_G) (QM QU : Nat → Prop) (QF QW : Nat → Nat → Prop) (p : Nat) (sm em : Int32) (F W : Nat → Int32) : Prop := ((∀ m, m < gm_l G p → 10 ≤ gm_s G p m → QM (gm_s G p m - 10)) → bt sm (gm_r G p) = true) ∧ (gm_pn G QU p 0 (gm_l G p) → bt em (gm_r G p) = true) ∧ (∀ t, t < 10 → gm_fs G QU (QF t) t p 0 → bt (F (gm_r G p)) t = true) ∧ ∀ m, m < gm_l G p → yl_w G QU QF QW W p m
theorem yl_q_k {QM QU : Nat → Prop} {QF QW : Nat → Nat → Prop} {sm em sm' em' : Int32} {F W F' W' : Nat → Int32} (h : yl_q QM QU QF QW sm em F W) (k : yl_k sm em F W sm' em' F' W') : yl_q QM QU QF QW sm' em' F' W' :=
  ⟨fun n z => k.1 n (h.1 n z), fun n z => k.2.1 n (h.2.1 n z), fun t n z => ⟨(h.2.2.1 t n z).1, (h.2.2.1 t n z).2.1, k.2.2.1 n (h.2.2.1 t n z).1 t (h.2.2.1 t n z).2.2⟩, fun t n z => ⟨(h.2.2.2 t n z).1, (h.2.2.2 t n z).2.1, k.2.2.2 n (h.2.2.2 t n z).1 t (h.2.2.2 t n z).2.2⟩⟩
theorem yl_k_t {sm em sm' em' sm2 em2 : Int32} {F W F' W' F2 W2 : Nat → Int32} (h : yl_k sm em F W sm' em' F' W') (k : yl_k sm' em' F' W' sm2 em2 F2 W2) : yl_k sm em F W sm2 em2 F2 W2 :=
  ⟨fun n z => k.1 n (h.1 n z), fun n z => k.2.1 n (h.2.1 n z), fun n hn t z => k.2.2.1 n hn t (h.2.2.1 n hn t z), fun n hn t z => k.2.2.2 n hn t (h.2.2.2 n hn t z)⟩
theorem yl_k_r {sm em : Int32} {F W : Nat → Int32} : yl_k sm em F W sm em F W := ⟨fun _ z => z, fun _ z => z, fun _ _ _ z => z, fun _ _ _ z => z⟩
theorem yl_F10 {G : gm_G} {sm em : Int32} {F W : Nat → Int32} (h : yl_s G sm em F W) : ∀ n, n < 6 → ∀ t, t < 32 → bt (F n) t = true → t < 10 := fun n hn t ht z => (gm_Fe.mp (h.2.2.1 n hn t ht z)).2.1
theorem ba_oone {x : Int32} {k t : Nat} (hk : k < 32) : bt (x ||| ((1 : Int32) <<< (nI k &&& 31))) t = true ↔ bt x t = true ∨ t = k := by
  rcases Nat.lt_or_ge t 32 with z | z
  · rw [b_or, ba_one k hk t z, Bool.or_eq_true, decide_eq_true_iff]
  · rw [b_big z, b_big z]
    constructor
    · intro h; exact absurd h (by decide)
    · rintro (h | h)
      · exact absurd h (by decide)
      · omega
section
variable {f_np f_built f_some f_empty f_wn f_nt : Int32} {a_pRule a_pScope a_pLen a_sym a_role a_first a_follow a_kind a_val a_len a_word a_reach a_beyond a_way a_known a_bad a_part a_scopes a_inner a_tRule a_tFrom a_tTo a_before : Nat → Int32} {G : gm_G} {QM QU : Nat → Prop} {QF QW : Nat → Nat → Prop}
theorem ym_l159 (hG : gm_ok G) (hy : yg_ok G f_np a_pRule a_pScope a_pLen a_sym a_role) {p : Nat} (hp : p < gm_n G) (hs : yl_s G f_some f_empty a_first a_follow) (post : SY → Prop) (hP : ∀ F, yl_s G f_some f_empty F a_follow → yl_k f_some f_empty a_first a_follow f_some f_empty F a_follow → (∀ t, t < 10 → gm_fs G (fun n => bt f_empty n = true) (fun n => bt (a_first n) t = true) t p 0 → bt (F (gm_r G p)) t = true) → post (f_np, f_built, f_some, f_empty, f_wn, f_nt, a_pRule, a_pScope, a_pLen, a_sym, a_role, F, a_follow, a_kind, a_val, a_len, a_word, a_reach, a_beyond, a_way, a_known, a_bad, a_part, a_scopes, a_inner, a_tRule, a_tFrom, a_tTo, a_before)) : wY_learn_159 post (nI p) (nI (gm_r G p)) f_np f_built f_some f_empty f_wn f_nt a_pRule a_pScope a_pLen a_sym a_role a_first a_follow a_kind a_val a_len a_word a_reach a_beyond a_way a_known a_bad a_part a_scopes a_inner a_tRule a_tFrom a_tTo a_before := by
  obtain ⟨h14, h6, hl, hs16⟩ := gm_p0 hG hp
  have c2 : (nI (gm_r G p)).toNatClampNeg = gm_r G p := nI_clamp (by omega)
  have i2 : vp_in (nI (gm_r G p)) 6 := vp_in_nI (by omega) (by omega)
  unfold wY_learn_159
  rw [c2]
  refine ⟨i2, ym_ff (m := 0) hG hy (yl_F10 hs) hp (by omega) _ (fun r hr => ⟨i2, nm_e (hP _ ⟨hs.1, hs.2.1, fun n hn t ht h => ?_, hs.2.2.2⟩ ⟨fun _ z => z, fun _ z => z, fun n hn t h => ?_, fun _ _ _ z => z⟩ (fun t ht h => ?_))⟩)⟩
  · rw [ba_up] at h; split at h
    · next e =>
      subst e
      rw [b_or, Bool.or_eq_true] at h
      rcases h with h | h
      · exact hs.2.2.1 _ hn t ht h
      · obtain ⟨t10, q⟩ := (hr t ht).mp h
        refine gm_Fe.mpr ⟨hn, t10, p, hp, rfl, ?_⟩
        obtain ⟨m', a, b, c, d⟩ := q
        refine ⟨m', a, b, fun k k1 k2 => ?_, ?_⟩
        · have y := c k k1 k2
          have := hs16 k (by omega)
          exact ⟨y.1, hs.2.1 _ (by omega) y.2⟩
        · have := hs16 m' b
          exact d.elim Or.inl (fun y => Or.inr ⟨y.1, hs.2.2.1 _ (by omega) t ht y.2⟩)
    · exact hs.2.2.1 n hn t ht h
  · rw [ba_up]; split
    · next e => subst e; rw [b_or, h]; rfl
    · exact h
  · rw [ba_up, if_pos rfl, b_or, Bool.or_eq_true]
    exact Or.inr ((hr t (by omega)).mpr ⟨ht, h⟩)
theorem ym_l138 (hG : gm_ok G) (hy : yg_ok G f_np a_pRule a_pScope a_pLen a_sym a_role) {p : Nat} (hp : p < gm_n G) (hs : yl_s G f_some f_empty a_first a_follow) (hq : yl_q QM QU QF QW f_some f_empty a_first a_follow) (hsm : (∀ m, m < gm_l G p → 10 ≤ gm_s G p m → QM (gm_s G p m - 10)) → bt f_some (gm_r G p) = true) (hW : ∀ m, m < gm_l G p → yl_w G QU QF QW a_follow p m) (post : SY → Prop) (hP : ∀ em F, yl_s G f_some em F a_follow → yl_k f_some f_empty a_first a_follow f_some em F a_follow → yl_c G QM QU QF QW p f_some em F a_follow → post (f_np, f_built, f_some, em, f_wn, f_nt, a_pRule, a_pScope, a_pLen, a_sym, a_role, F, a_follow, a_kind, a_val, a_len, a_word, a_reach, a_beyond, a_way, a_known, a_bad, a_part, a_scopes, a_inner, a_tRule, a_tFrom, a_tTo, a_before)) : wY_learn_138 post (nI p) (nI (gm_r G p)) f_np f_built f_some f_empty f_wn f_nt a_pRule a_pScope a_pLen a_sym a_role a_first a_follow a_kind a_val a_len a_word a_reach a_beyond a_way a_known a_bad a_part a_scopes a_inner a_tRule a_tFrom a_tTo a_before := by
  obtain ⟨h14, h6, hl, hs16⟩ := gm_p0 hG hp
  unfold wY_learn_138
  refine ym_ef (m := 0) hG hy hp (by omega) _ (fun h => br_f (by decide) (nm_e ?_)) (fun h => br_t rfl ?_)
  · have hU : gm_U G (gm_r G p) := gm_Ue.mpr ⟨h6, p, hp, rfl, fun k k1 k2 => by
      have y := h k k1 k2
      have := hs16 k (by omega)
      exact ⟨y.1, hs.2.1 _ (by omega) y.2⟩⟩
    have em' : ∀ n, bt f_empty n = true → bt (f_empty ||| ((1 : Int32) <<< (nI (gm_r G p) &&& 31))) n = true := fun n z => (ba_oone (by omega)).mpr (Or.inl z)
    refine ym_l159 hG hy hp ⟨hs.1, fun n hn z => ?_, hs.2.2⟩ post (fun F a b c => hP _ F a (yl_k_t ⟨fun _ z => z, em', fun _ _ _ z => z, fun _ _ _ z => z⟩ b) ⟨hsm, fun _ => (ba_oone (by omega)).mpr (Or.inr rfl), fun t ht z => c t ht (gm_fs_mo (fun n y => em' n (hq.2.1 n y)) (fun n y => (hq.2.2.1 t n y).2.2) z), hW⟩)
    rcases (ba_oone (by omega)).mp z with z | z
    · exact hs.2.1 n hn z
    · rw [z]; exact hU
  · refine ym_l159 hG hy hp hs post (fun F a b c => hP _ F a b ⟨hsm, fun z => absurd (gm_pn_mo hq.2.1 z) h, fun t ht z => c t ht (gm_fs_mo hq.2.1 (fun n y => (hq.2.2.1 t n y).2.2) z), hW⟩)
theorem ym_l63 (hG : gm_ok G) (hy : yg_ok G f_np a_pRule a_pScope a_pLen a_sym a_role) {p m : Nat} (hp : p < gm_n G) (hm : m < gm_l G p) (h10 : 10 ≤ gm_s G p m) (hs : yl_s G f_some f_empty a_first a_follow) (hq : yl_q QM QU QF QW f_some f_empty a_first a_follow) (post : SY → Prop) (J12 : _) (x3 : Int32) (hP : ∀ W, yl_s G f_some f_empty a_first W → yl_k f_some f_empty a_first a_follow f_some f_empty a_first W → yl_w G QU QF QW W p m → J12 x3 (nI (m + 1)) a_pRule a_pScope a_pLen a_sym a_role a_first W a_kind a_val a_len a_word a_reach a_beyond a_way a_known a_bad a_part a_scopes a_inner a_tRule a_tFrom a_tTo a_before) : wY_learn_63 post J12 (nI p) (nI (gm_r G p)) x3 (nI m) (nI (gm_s G p m)) f_np f_built f_some f_empty f_wn f_nt a_pRule a_pScope a_pLen a_sym a_role a_first a_follow a_kind a_val a_len a_word a_reach a_beyond a_way a_known a_bad a_part a_scopes a_inner a_tRule a_tFrom a_tTo a_before := by
  obtain ⟨h14, h6, hl, hs16⟩ := gm_p0 hG hp
  have h16 := hs16 m hm
  have c2 : (nI (gm_r G p)).toNatClampNeg = gm_r G p := nI_clamp (by omega)
  have i2 : vp_in (nI (gm_r G p)) 6 := vp_in_nI (by omega) (by omega)
  have c3 : (nI (gm_s G p m - 10)).toNatClampNeg = gm_s G p m - 10 := nI_clamp (by omega)
  have i3 : vp_in (nI (gm_s G p m - 10)) 6 := vp_in_nI (by omega) (by omega)
  have sn : gm_s G p m = 10 + (gm_s G p m - 10) := by omega
  unfold wY_learn_63
  rw [ba_m10 h10, c2, c3, nI_1 m]
  refine ⟨i3, ym_ff hG hy (yl_F10 hs) hp (by omega) _ (fun r hr => ⟨i3, nm_e ?_⟩)⟩
  have k1 : ∀ n, n < 6 → ∀ t, bt (a_follow n) t = true → bt (upd a_follow (gm_s G p m - 10) (a_follow (gm_s G p m - 10) ||| r) n) t = true := by
    intro n hn t h
    rw [ba_up]; split
    · next e => subst e; rw [b_or, h]; rfl
    · exact h
  have s1 : ∀ n, n < 6 → ∀ t, t < 32 → bt (upd a_follow (gm_s G p m - 10) (a_follow (gm_s G p m - 10) ||| r) n) t = true → gm_W G t n := by
    intro n hn t ht h
    rw [ba_up] at h; split at h
    · next e =>
      subst e
      rw [b_or, Bool.or_eq_true] at h
      rcases h with h | h
      · exact hs.2.2.2 _ hn t ht h
      · obtain ⟨t10, q⟩ := (hr t ht).mp h
        refine gm_We.mpr ⟨hn, by omega, Or.inr ⟨p, m, hp, hm, sn, Or.inl ⟨t10, ?_⟩⟩⟩
        obtain ⟨m', a, b, c, d⟩ := q
        refine ⟨m', a, b, fun k k1 k2 => ?_, ?_⟩
        · have y := c k k1 k2
          have := hs16 k (by omega)
          exact ⟨y.1, hs.2.1 _ (by omega) y.2⟩
        · have := hs16 m' b
          exact d.elim Or.inl (fun y => Or.inr ⟨y.1, hs.2.2.1 _ (by omega) t ht y.2⟩)
    · exact hs.2.2.2 n hn t ht h
  have w1 : ∀ t, t < 10 → gm_fs G QU (QF t) t p (m + 1) → bt (upd a_follow (gm_s G p m - 10) (a_follow (gm_s G p m - 10) ||| r) (gm_s G p m - 10)) t = true := by
    intro t ht h
    rw [ba_up, if_pos rfl, b_or, Bool.or_eq_true]
    exact Or.inr ((hr t (by omega)).mpr ⟨ht, gm_fs_mo hq.2.1 (fun n y => (hq.2.2.1 t n y).2.2) h⟩)
  refine ym_ef hG hy hp (by omega) _ (fun h => br_f (by decide) ⟨i3, i2, i3, nm_e (nm_r rfl (hP _ ⟨hs.1, hs.2.1, hs.2.2.1, fun n hn t ht z => ?_⟩ ⟨fun _ z => z, fun _ z => z, fun _ _ _ z => z, fun n hn t z => ?_⟩ (fun n t e z => ?_)))⟩) (fun h => br_t rfl (nm_r rfl (hP _ ⟨hs.1, hs.2.1, hs.2.2.1, s1⟩ ⟨fun _ z => z, fun _ z => z, fun _ _ _ z => z, k1⟩ (fun n t e z => ?_))))
  · rw [ba_up] at z; split at z
    · next e =>
      subst e
      rw [b_or, Bool.or_eq_true] at z
      rcases z with z | z
      · exact s1 _ hn t ht z
      · have := s1 _ h6 t ht z
        refine gm_We.mpr ⟨hn, gm_W10 this, Or.inr ⟨p, m, hp, hm, sn, Or.inr ⟨fun k k1 k2 => ?_, this⟩⟩⟩
        have y := h k k1 k2
        have := hs16 k (by omega)
        exact ⟨y.1, hs.2.1 _ (by omega) y.2⟩
    · exact s1 n hn t ht z
  · rw [ba_up]; split
    · next e => subst e; rw [b_or, k1 _ hn t z]; rfl
    · exact k1 n hn t z
  · have en : n = gm_s G p m - 10 := by omega
    subst en
    rw [ba_up, if_pos rfl, b_or, Bool.or_eq_true]
    rcases z with ⟨z1, z2⟩ | ⟨z1, z2⟩
    · exact Or.inl (w1 t z1 z2)
    · exact Or.inr (k1 _ h6 t (hq.2.2.2 t _ z2).2.2)
  · have en : n = gm_s G p m - 10 := by omega
    subst en
    rcases z with ⟨z1, z2⟩ | ⟨z1, z2⟩
    · exact w1 t z1 z2
    · exact absurd (gm_pn_mo hq.2.1 z1) h
theorem ym_l12 (hG : gm_ok G) (hy : yg_ok G f_np a_pRule a_pScope a_pLen a_sym a_role) {p : Nat} (hp : p < gm_n G) {W0 : Nat → Int32} (hq : yl_q QM QU QF QW f_some f_empty a_first W0) (post : SY → Prop) (hP : ∀ sm em F W, yl_s G sm em F W → yl_k f_some f_empty a_first W0 sm em F W → yl_c G QM QU QF QW p sm em F W → post (f_np, f_built, sm, em, f_wn, f_nt, a_pRule, a_pScope, a_pLen, a_sym, a_role, F, W, a_kind, a_val, a_len, a_word, a_reach, a_beyond, a_way, a_known, a_bad, a_part, a_scopes, a_inner, a_tRule, a_tFrom, a_tTo, a_before)) :
    ∀ d m x3 W, m + d = gm_l G p → yl_s G f_some f_empty a_first W → yl_k f_some f_empty a_first W0 f_some f_empty a_first W → (∀ m', m' < m → yl_w G QU QF QW W p m') → (x3 = 1 ∧ (∀ m', m' < m → 10 ≤ gm_s G p m' → bt f_some (gm_s G p m' - 10) = true) ∨ x3 = 0 ∧ ∃ m', m' < m ∧ 10 ≤ gm_s G p m' ∧ ¬ bt f_some (gm_s G p m' - 10) = true) → wY_learn_12 post (nI p) (nI (gm_r G p)) f_np f_built f_some f_empty f_wn f_nt (d + 1) x3 (nI m) a_pRule a_pScope a_pLen a_sym a_role a_first W a_kind a_val a_len a_word a_reach a_beyond a_way a_known a_bad a_part a_scopes a_inner a_tRule a_tFrom a_tTo a_before := by
  obtain ⟨h14, h6, hl, hs16⟩ := gm_p0 hG hp
  obtain ⟨_, _, e3, e4⟩ := hy.2 p hp
  have i1 : vp_in (nI p) 14 := vp_in_nI h14 (by omega)
  have c1 : (nI p).toNatClampNeg = p := nI_clamp (by omega)
  intro d
  induction d with
  | zero =>
    intro m x3 W hm hs hk hw hx
    have em : m = gm_l G p := by omega
    subst em
    rw [wY_learn_12]
    dsimp only
    rw [c1, e3]
    refine ⟨i1, br_t (nI_le (by omega) (by omega)) ?_⟩
    rcases hx with ⟨e, hx⟩ | ⟨e, m', x1, x2, x3⟩
    · subst e
      have sm' : ∀ n, bt f_some n = true → bt (f_some ||| ((1 : Int32) <<< (nI (gm_r G p) &&& 31))) n = true := fun n z => (ba_oone (by omega)).mpr (Or.inl z)
      have kk : yl_k f_some f_empty a_first W0 (f_some ||| ((1 : Int32) <<< (nI (gm_r G p) &&& 31))) f_empty a_first W := ⟨sm', hk.2⟩
      refine br_f (by decide) (nm_e (ym_l138 (QM := QM) hG hy hp ⟨fun n hn z => ?_, hs.2⟩ (yl_q_k hq kk) (fun _ => (ba_oone (by omega)).mpr (Or.inr rfl)) hw post (fun em F a b c => hP _ em F W a (yl_k_t kk b) c)))
      rcases (ba_oone (by omega)).mp z with z | z
      · exact hs.1 n hn z
      · rw [z]
        refine gm_Me.mpr ⟨h6, p, hp, rfl, fun m hm h10 => ?_⟩
        have := hs16 m hm
        exact hs.1 _ (by omega) (hx m hm h10)
    · subst e
      exact br_t rfl (ym_l138 (QM := QM) hG hy hp hs (yl_q_k hq hk) (fun z => absurd (hq.1 _ (z m' x1 x2)) x3) hw post (fun em F a b c => hP _ em F W a (yl_k_t hk b) c))
  | succ d ih =>
    intro m x3 W hm hs hk hw hx
    have h16 := hs16 m (by omega)
    have c2 : (nI (p * 4 + m)).toNatClampNeg = p * 4 + m := nI_clamp (by omega)
    have i2 : vp_in (nI (p * 4 + m)) 56 := vp_in_nI (by omega) (by omega)
    rw [wY_learn_12]
    dsimp only
    rw [c1, e3, ba_4x, c2, (e4 m (by omega)).1]
    refine ⟨i1, br_f (nI_ge (by omega) (by omega)) ⟨i2, nm_e ?_⟩⟩
    have hwn : ∀ W', yl_k f_some f_empty a_first W f_some f_empty a_first W' → yl_w G QU QF QW W' p m → ∀ m', m' < m + 1 → yl_w G QU QF QW W' p m' := by
      intro W' k' w' m' hm'
      rcases Nat.lt_or_ge m' m with z | z
      · intro n t e q
        have := hs16 m' (by omega)
        exact k'.2.2.2 n (by omega) t (hw m' z n t e q)
      · have e : m' = m := by omega
        subst e; exact w'
    rcases Nat.lt_or_ge (gm_s G p m) 10 with z | z
    · refine br_f (nI_ge (b := 10) z (by omega)) (nm_r (nI_1 m) (ih (m + 1) x3 W (by omega) hs hk (hwn W yl_k_r (fun n t e => by omega)) ?_))
      rcases hx with ⟨e, hx⟩ | ⟨e, m', x1, x2⟩
      · refine Or.inl ⟨e, fun m' hm' h10 => ?_⟩
        rcases Nat.lt_or_ge m' m with y | y
        · exact hx m' y h10
        · have e : m' = m := by omega
          subst e; omega
      · exact Or.inr ⟨e, m', by omega, x2⟩
    · refine br_t (nI_le (a := 10) z (by omega)) ?_
      rw [ba_m10 z]
      rcases Classical.em (bt f_some (gm_s G p m - 10) = true) with q | q
      · refine br_f (by rw [ba_sh (by omega), q]; decide) (ym_l63 (QM := QM) hG hy hp (by omega) z hs (yl_q_k hq hk) post _ x3 (fun W' a b c => ih (m + 1) x3 W' (by omega) a (yl_k_t hk b) (hwn W' b c) ?_))
        rcases hx with ⟨e, hx⟩ | ⟨e, m', x1, x2⟩
        · refine Or.inl ⟨e, fun m' hm' h10 => ?_⟩
          rcases Nat.lt_or_ge m' m with y | y
          · exact hx m' y h10
          · have e : m' = m := by omega
            subst e; exact q
        · exact Or.inr ⟨e, m', by omega, x2⟩
      · refine br_t ((ba_sh (by omega)).mpr (by cases h : bt f_some (gm_s G p m - 10) <;> simp_all)) (ym_l63 (QM := QM) hG hy hp (by omega) z hs (yl_q_k hq hk) post _ 0 (fun W' a b c => ih (m + 1) 0 W' (by omega) a (yl_k_t hk b) (hwn W' b c) (Or.inr ⟨rfl, m, by omega, z, q⟩)))
theorem ym_learn (hG : gm_ok G) (hy : yg_ok G f_np a_pRule a_pScope a_pLen a_sym a_role) {p : Nat} (hp : p < gm_n G) (hs : yl_s G f_some f_empty a_first a_follow) (hq : yl_q QM QU QF QW f_some f_empty a_first a_follow) (post : SY → Prop) (hP : ∀ sm em F W, yl_s G sm em F W → yl_k f_some f_empty a_first a_follow sm em F W → yl_c G QM QU QF QW p sm em F W → post (f_np, f_built, sm, em, f_wn, f_nt, a_pRule, a_pScope, a_pLen, a_sym, a_role, F, W, a_kind, a_val, a_len, a_word, a_reach, a_beyond, a_way, a_known, a_bad, a_part, a_scopes, a_inner, a_tRule, a_tFrom, a_tTo, a_before)) : wpY_learn post (f_np, f_built, f_some, f_empty, f_wn, f_nt, a_pRule, a_pScope, a_pLen, a_sym, a_role, a_first, a_follow, a_kind, a_val, a_len, a_word, a_reach, a_beyond, a_way, a_known, a_bad, a_part, a_scopes, a_inner, a_tRule, a_tFrom, a_tTo, a_before) (nI p) := by
  obtain ⟨h14, h6, hl, hs16⟩ := gm_p0 hG hp
  have c1 : (nI p).toNatClampNeg = p := nI_clamp (by omega)
  unfold wpY_learn
  dsimp only
  rw [c1]
  refine ⟨vp_in_nI h14 (by omega), nm_r (hy.2 p hp).1 ⟨gm_l G p + 1, ym_l12 hG hy hp hq post hP (gm_l G p) 0 1 a_follow (by omega) hs yl_k_r (fun m' h => by omega) (Or.inl ⟨rfl, fun m' h => by omega⟩)⟩⟩
end
end
section
/-! Y's build -/
section
variable {f_np f_built f_some f_empty f_wn f_nt : Int32} {a_pRule a_pScope a_pLen a_sym a_role a_first a_follow a_kind a_val a_len a_word a_reach a_beyond a_way a_known a_bad a_part a_scopes a_inner a_tRule a_tFrom a_tTo a_before : Nat → Int32} {G : gm_G}
theorem ym_pred (hG : gm_ok G) (hy : yg_ok G f_np a_pRule a_pScope a_pLen a_sym a_role) (hE : ∀ n, n < 6 → (bt f_empty n = true ↔ gm_U G n)) (hF : ∀ n, n < 6 → gm_ms (a_first n) (fun t => gm_F G t n)) (hW : ∀ n, n < 6 → gm_ms (a_follow n) (fun t => gm_W G t n)) {p : Nat} (hp : p < gm_n G) (post : Int32 → Prop) (hP : ∀ r, gm_ms r (fun t => gm_P G t p) → post r) : wpY_predict post (f_np, f_built, f_some, f_empty, f_wn, f_nt, a_pRule, a_pScope, a_pLen, a_sym, a_role, a_first, a_follow, a_kind, a_val, a_len, a_word, a_reach, a_beyond, a_way, a_known, a_bad, a_part, a_scopes, a_inner, a_tRule, a_tFrom, a_tTo, a_before) (nI p) := by
  obtain ⟨h14, h6, hl, hs16⟩ := gm_p0 hG hp
  have c1 : (nI p).toNatClampNeg = p := nI_clamp (by omega)
  have c2 : (nI (gm_r G p)).toNatClampNeg = gm_r G p := nI_clamp (by omega)
  have ePN : gm_pn G (fun n => bt f_empty n = true) p 0 (gm_l G p) ↔ gm_uq G p 0 := by
    constructor
    · intro h k k1 k2
      have := hs16 k k2
      exact ⟨(h k k1 k2).1, (hE _ (by omega)).mp (h k k1 k2).2⟩
    · intro h k k1 k2
      have := hs16 k k2
      exact ⟨(h k k1 k2).1, (hE _ (by omega)).mpr (h k k1 k2).2⟩
  unfold wpY_predict
  dsimp only
  refine ym_ff (m := 0) hG hy (fun n hn t ht z => (gm_Fe.mp ((hF n hn t ht).mp z)).2.1) hp (by omega) _ (fun r hr => ?_)
  have hr' : ∀ t, t < 32 → (bt r t = true ↔ gm_fq G t p 0) := by
    intro t ht
    rw [hr t ht]
    constructor
    · intro ⟨a, m', b, c, d, e⟩
      refine ⟨a, m', b, c, fun k k1 k2 => ?_, ?_⟩
      · have := hs16 k (by omega)
        exact ⟨(d k k1 k2).1, (hE _ (by omega)).mp (d k k1 k2).2⟩
      · have := hs16 m' c
        exact e.elim Or.inl (fun y => Or.inr ⟨y.1, (hF _ (by omega) t ht).mp y.2⟩)
    · intro ⟨a, m', b, c, d, e⟩
      refine ⟨a, m', b, c, fun k k1 k2 => ?_, ?_⟩
      · have := hs16 k (by omega)
        exact ⟨(d k k1 k2).1, (hE _ (by omega)).mpr (d k k1 k2).2⟩
      · have := hs16 m' c
        exact e.elim Or.inl (fun y => Or.inr ⟨y.1, (hF _ (by omega) t ht).mpr y.2⟩)
  refine ym_ef (m := 0) hG hy hp (by omega) _ (fun h => br_f (by decide) ?_) (fun h => br_t rfl (hP _ (fun t ht => ?_)))
  · rw [c1, (hy.2 p hp).1, c2]
    refine ⟨vp_in_nI h14 (by omega), vp_in_nI h6 (by omega), hP _ (fun t ht => ?_)⟩
    rw [b_or, Bool.or_eq_true, hr' t ht, hW _ h6 t ht]
    unfold gm_P
    simp only [ePN.mp h, true_and]
  · rw [b_or, b_0, Bool.or_false, hr' t ht]
    unfold gm_P
    have : ¬ gm_uq G p 0 := fun z => h (ePN.mpr z)
    simp [this]
theorem ym_b218 (hG : gm_ok G) (hy : yg_ok G f_np a_pRule a_pScope a_pLen a_sym a_role) (hE : ∀ n, n < 6 → (bt f_empty n = true ↔ gm_U G n)) (hF : ∀ n, n < 6 → gm_ms (a_first n) (fun t => gm_F G t n)) (hW : ∀ n, n < 6 → gm_ms (a_follow n) (fun t => gm_W G t n)) {q : Nat} (hq : q < gm_n G) (post : Int32 → SY → Prop) (J208 : _) (h1 : gm_cl G q → post (32 + nI q) (f_np, f_built, f_some, f_empty, f_wn, f_nt, a_pRule, a_pScope, a_pLen, a_sym, a_role, a_first, a_follow, a_kind, a_val, a_len, a_word, a_reach, a_beyond, a_way, a_known, a_bad, a_part, a_scopes, a_inner, a_tRule, a_tFrom, a_tTo, a_before)) (h0 : ¬ gm_cl G q → J208 (nI (q + 1))) :
    ∀ d p, p + d = q → (∀ p', p' < p → ¬ (gm_r G p' = gm_r G q ∧ ∃ t, t ≤ 10 ∧ gm_P G t p' ∧ gm_P G t q)) → wY_build_218 post J208 (nI q) f_np f_built f_some f_empty f_wn f_nt a_pRule a_pScope a_pLen a_sym a_role a_first a_follow a_kind a_val a_len a_word a_reach a_beyond a_way a_known a_bad a_part a_scopes a_inner a_tRule a_tFrom a_tTo a_before (d + 1) (nI p) := by
  have h14 := hG.1
  have c1 : (nI q).toNatClampNeg = q := nI_clamp (by omega)
  have h6' := (gm_p0 hG hq).2.1
  intro d
  induction d with
  | zero =>
    intro p hp hI
    rw [wY_build_218]
    dsimp only
    exact br_t (nI_le (by omega) (by omega)) (nm_r (nI_1 q) (h0 (fun ⟨p', a, b⟩ => hI p' (by omega) b)))
  | succ d ih =>
    intro p hp hI
    have hpn : p < gm_n G := by omega
    have h6 := (gm_p0 hG hpn).2.1
    have c2 : (nI p).toNatClampNeg = p := nI_clamp (by omega)
    have nx : ¬ (gm_r G p = gm_r G q ∧ ∃ t, t ≤ 10 ∧ gm_P G t p ∧ gm_P G t q) → wY_build_218 post J208 (nI q) f_np f_built f_some f_empty f_wn f_nt a_pRule a_pScope a_pLen a_sym a_role a_first a_follow a_kind a_val a_len a_word a_reach a_beyond a_way a_known a_bad a_part a_scopes a_inner a_tRule a_tFrom a_tTo a_before (d + 1) (nI (p + 1)) := fun h => ih (p + 1) (by omega) (fun p' hp' => by
      rcases Nat.lt_or_ge p' p with y | y
      · exact hI p' y
      · have e : p' = p := by omega
        subst e; exact h)
    rw [wY_build_218]
    dsimp only
    rw [c1, c2, (hy.2 p hpn).1, (hy.2 q hq).1]
    refine br_f (nI_ge (by omega) (by omega)) ⟨vp_in_nI (by omega) (by omega), vp_in_nI (by omega) (by omega), pk_eq (gm_r G p) (gm_r G q) (fun h => ?_) (fun h => nm_r (nI_1 p) (nx (fun z => h z.1)))⟩
    refine ym_pred hG hy hE hF hW hpn _ (fun r hr => ym_pred hG hy hE hF hW hq _ (fun r' hr' => ?_))
    rcases Classical.em (∃ t, t ≤ 10 ∧ gm_P G t p ∧ gm_P G t q) with z | z
    · exact br_f (fun y => (gm_Pan hr hr').mp y z) (h1 ⟨p, by omega, h, z⟩)
    · exact br_t ((gm_Pan hr hr').mpr z) (nm_r (nI_1 p) (nx (fun y => z y.2)))
theorem ym_b208 (hG : gm_ok G) (hy : yg_ok G f_np a_pRule a_pScope a_pLen a_sym a_role) (hE : ∀ n, n < 6 → (bt f_empty n = true ↔ gm_U G n)) (hF : ∀ n, n < 6 → gm_ms (a_first n) (fun t => gm_F G t n)) (hW : ∀ n, n < 6 → gm_ms (a_follow n) (fun t => gm_W G t n)) (hb : f_built = 0) (hM : ∀ n, n < 6 → gm_us G n → gm_M G n) (post : Int32 → SY → Prop) (hP : ∀ r b, bd_r G r b → post r (f_np, rb b, f_some, f_empty, f_wn, f_nt, a_pRule, a_pScope, a_pLen, a_sym, a_role, a_first, a_follow, a_kind, a_val, a_len, a_word, a_reach, a_beyond, a_way, a_known, a_bad, a_part, a_scopes, a_inner, a_tRule, a_tFrom, a_tTo, a_before)) :
    ∀ d q, q + d = gm_n G → (∀ q', q' < q → ¬ gm_cl G q') → wY_build_208 post f_np f_built f_some f_empty f_wn f_nt a_pRule a_pScope a_pLen a_sym a_role a_first a_follow a_kind a_val a_len a_word a_reach a_beyond a_way a_known a_bad a_part a_scopes a_inner a_tRule a_tFrom a_tTo a_before (d + 1) (nI q) := by
  have h14 := hG.1
  have e0 := hy.1
  intro d
  induction d with
  | zero =>
    intro q hq hI
    rw [wY_build_208]
    dsimp only
    exact br_t (by rw [e0]; exact nI_le (by omega) (by omega)) (hP 0 true (Or.inr ⟨hM, Or.inr ⟨fun q' hq' => hI q' (by omega), rfl, rfl⟩⟩))
  | succ d ih =>
    intro q hq hI
    rw [wY_build_208]
    dsimp only
    refine br_f (by rw [e0]; exact nI_ge (by omega) (by omega)) ⟨q + 1, ym_b218 hG hy hE hF hW (by omega) post _ (fun h => ?_) (fun h => ih (q + 1) (by omega) (fun q' hq' => ?_)) q 0 (by omega) (fun p' h => by omega)⟩
    · rw [show (32 : Int32) = nI 32 from rfl, nI_add]
      have := hP (nI (32 + q)) false (Or.inr ⟨hM, Or.inl ⟨q, by omega, h, hI, rfl, rfl⟩⟩)
      rw [rb_f, ← hb] at this
      exact this
    · rcases Nat.lt_or_ge q' q with y | y
      · exact hI q' y
      · have e : q' = q := by omega
        subst e; exact h
theorem ym_b174 (hG : gm_ok G) (hy : yg_ok G f_np a_pRule a_pScope a_pLen a_sym a_role) (hS : ∀ n, n < 6 → (bt f_some n = true ↔ gm_M G n)) (hE : ∀ n, n < 6 → (bt f_empty n = true ↔ gm_U G n)) (hF : ∀ n, n < 6 → gm_ms (a_first n) (fun t => gm_F G t n)) (hW : ∀ n, n < 6 → gm_ms (a_follow n) (fun t => gm_W G t n)) (hb : f_built = 0) {x1 : Int32} (hU : ∀ n, n < 6 → (bt x1 n = true ↔ gm_us G n)) (post : Int32 → SY → Prop) (hP : ∀ r b, bd_r G r b → post r (f_np, rb b, f_some, f_empty, f_wn, f_nt, a_pRule, a_pScope, a_pLen, a_sym, a_role, a_first, a_follow, a_kind, a_val, a_len, a_word, a_reach, a_beyond, a_way, a_known, a_bad, a_part, a_scopes, a_inner, a_tRule, a_tFrom, a_tTo, a_before)) :
    ∀ d k, k + d = 6 → (∀ n, n < k → gm_us G n → gm_M G n) → wY_build_174 post x1 f_np f_built f_some f_empty f_wn f_nt a_pRule a_pScope a_pLen a_sym a_role a_first a_follow a_kind a_val a_len a_word a_reach a_beyond a_way a_known a_bad a_part a_scopes a_inner a_tRule a_tFrom a_tTo a_before (d + 1) (nI k) := by
  intro d
  induction d with
  | zero =>
    intro k hk hI
    rw [wY_build_174]
    dsimp only
    exact br_t (nI_le (a := 6) (by omega) (by omega)) ⟨gm_n G + 1, ym_b208 hG hy hE hF hW hb (fun n hn => hI n (by omega)) post hP (gm_n G) 0 (by omega) (fun q' h => by omega)⟩
  | succ d ih =>
    intro k hk hI
    rw [wY_build_174]
    dsimp only
    have hbit : bt (x1 &&& (f_some ^^^ (-1))) k = true ↔ gm_us G k ∧ ¬ gm_M G k := by
      rw [b_and, b_xor, b_m1 k (by omega), Bool.and_eq_true, hU k (by omega), ← hS k (by omega)]
      cases bt f_some k <;> simp
    refine br_f (nI_ge (b := 6) (by omega) (by omega)) ?_
    rcases Classical.em (gm_us G k ∧ ¬ gm_M G k) with z | z
    · refine br_f (by rw [ba_t1 (by omega), hbit.mpr z]; decide) ?_
      rw [show (16 : Int32) = nI 16 from rfl, nI_add]
      have := hP (nI (16 + k)) false (Or.inl ⟨k, by omega, z.1, z.2, hI, rfl, rfl⟩)
      rw [rb_f, ← hb] at this
      exact this
    · refine br_t ((ba_t1 (by omega)).mpr ?_) (nm_r (nI_1 k) (ih (k + 1) (by omega) (fun n hn hu => ?_)))
      · cases h : bt (x1 &&& (f_some ^^^ (-1))) k
        · rfl
        · exact absurd (hbit.mp h) z
      · rcases Nat.lt_or_ge n k with y | y
        · exact hI n y hu
        · have e : n = k := by omega
          subst e
          exact Classical.byContradiction (fun w => z ⟨hu, w⟩)
theorem ym_b147 (hG : gm_ok G) (hy : yg_ok G f_np a_pRule a_pScope a_pLen a_sym a_role) {QM QU : Nat → Prop} {QF QW : Nat → Nat → Prop} {sm0 em0 : Int32} {F0 W0 : Nat → Int32} (hq : yl_q QM QU QF QW sm0 em0 F0 W0) (post : Int32 → SY → Prop) (J139 : _) (x1 x2 : Int32) (hJ : ∀ sm em F W, yl_s G sm em F W → yl_k sm0 em0 F0 W0 sm em F W → (∀ p, p < gm_n G → yl_c G QM QU QF QW p sm em F W) → J139 (x2 + 1) f_np f_built sm em f_wn f_nt a_pRule a_pScope a_pLen a_sym a_role F W a_kind a_val a_len a_word a_reach a_beyond a_way a_known a_bad a_part a_scopes a_inner a_tRule a_tFrom a_tTo a_before) :
    ∀ d p sm em F W, p + d = gm_n G → yl_s G sm em F W → yl_k sm0 em0 F0 W0 sm em F W → (∀ p', p' < p → yl_c G QM QU QF QW p' sm em F W) → wY_build_147 post J139 x1 x2 (d + 1) (nI p) f_np f_built sm em f_wn f_nt a_pRule a_pScope a_pLen a_sym a_role F W a_kind a_val a_len a_word a_reach a_beyond a_way a_known a_bad a_part a_scopes a_inner a_tRule a_tFrom a_tTo a_before := by
  have h14 := hG.1
  have e0 := hy.1
  intro d
  induction d with
  | zero =>
    intro p sm em F W hp hs hk hI
    rw [wY_build_147]
    dsimp only
    exact br_t (by rw [e0]; exact nI_le (by omega) (by omega)) (nm_e (hJ sm em F W hs hk (fun p' hp' => hI p' (by omega))))
  | succ d ih =>
    intro p sm em F W hp hs hk hI
    rw [wY_build_147]
    dsimp only
    refine br_f (by rw [e0]; exact nI_ge (by omega) (by omega)) (ym_learn (QM := QM) (QU := QU) (QF := QF) (QW := QW) hG hy (by omega) hs (yl_q_k hq hk) _ (fun sm' em' F' W' a b c => nm_r (nI_1 p) (ih (p + 1) _ _ _ _ (by omega) a (yl_k_t hk b) (fun p' hp' => ?_))))
    rcases Nat.lt_or_ge p' p with y | y
    · obtain ⟨c1, c2, c3, c4⟩ := hI p' y
      have hp' : p' < gm_n G := by omega
      have h6 := (gm_p0 hG hp').2.1
      refine ⟨fun z => b.1 _ (c1 z), fun z => b.2.1 _ (c2 z), fun t ht z => b.2.2.1 _ h6 t (c3 t ht z), fun m hm n t e z => ?_⟩
      have := (gm_p0 hG hp').2.2.2 m hm
      exact b.2.2.2 n (by omega) t (c4 m hm n t e z)
    · have e : p' = p := by omega
      subst e; exact c
theorem ym_b139 (hG : gm_ok G) (hy : yg_ok G f_np a_pRule a_pScope a_pLen a_sym a_role) (hb : f_built = 0) {x1 : Int32} (hU : ∀ n, n < 6 → (bt x1 n = true ↔ gm_us G n)) (post : Int32 → SY → Prop) (hP : ∀ r b sm em F W, bd_r G r b → post r (f_np, rb b, sm, em, f_wn, f_nt, a_pRule, a_pScope, a_pLen, a_sym, a_role, F, W, a_kind, a_val, a_len, a_word, a_reach, a_beyond, a_way, a_known, a_bad, a_part, a_scopes, a_inner, a_tRule, a_tFrom, a_tTo, a_before)) :
    ∀ d k sm em F W, k + d = 100 → yl_s G sm em F W → bt (W 0) 10 = true → yl_q (fx_L (gm_mF G) k) (fx_L (gm_uF G) k) (fun t => fx_L (gm_fF G t) (k - 6)) (fun t => fx_L (gm_wF G t) (k - 12)) sm em F W → wY_build_139 post x1 (d + 1) (nI k) f_np f_built sm em f_wn f_nt a_pRule a_pScope a_pLen a_sym a_role F W a_kind a_val a_len a_word a_reach a_beyond a_way a_known a_bad a_part a_scopes a_inner a_tRule a_tFrom a_tTo a_before := by
  intro d
  induction d with
  | zero =>
    intro k sm em F W hk hs h0 hq
    have e : k = 100 := by omega
    subst e
    rw [wY_build_139]
    dsimp only
    refine br_t (nI_le (a := 100) (by omega) (by omega)) ⟨6 + 1, ym_b174 hG hy (fun n hn => ⟨hs.1 n (by omega), fun z => hq.1 n (fx_le (gm_mM G) (by omega) (gm_M6 z))⟩) (fun n hn => ⟨hs.2.1 n (by omega), fun z => hq.2.1 n (fx_le (gm_uM G) (by omega) (gm_U6 z))⟩) (fun n hn t ht => ⟨hs.2.2.1 n hn t ht, fun z => (hq.2.2.1 t n (fx_le (gm_fM G t) (by omega) (gm_F6 z))).2.2⟩) (fun n hn t ht => ⟨hs.2.2.2 n hn t ht, fun z => (hq.2.2.2 t n (fx_le (gm_wM G t) (by omega) (gm_W6 z))).2.2⟩) hb hU post (fun r b h => hP r b _ _ _ _ h) 6 0 (by omega) (fun n h => by omega)⟩
  | succ d ih =>
    intro k sm em F W hk hs h0 hq
    rw [wY_build_139]
    dsimp only
    refine br_f (nI_ge (b := 100) (by omega) (by omega)) ⟨gm_n G + 1, ym_b147 hG hy hq post _ x1 (nI k) (fun sm' em' F' W' a b c => ?_) (gm_n G) 0 sm em F W (by omega) hs yl_k_r (fun p' h => by omega)⟩
    rw [nI_1]
    refine ih (k + 1) sm' em' F' W' (by omega) a (b.2.2.2 0 (by omega) 10 h0) ⟨fun n z => ?_, fun n z => ?_, fun t n z => ?_, fun t n z => ?_⟩
    · obtain ⟨_, p, z1, z2, z3⟩ := z
      rw [← z2]
      exact (c p z1).1 z3
    · obtain ⟨_, p, z1, z2, z3⟩ := z
      rw [← z2]
      exact (c p z1).2.1 z3
    · rcases Nat.lt_or_ge k 6 with y | y
      · rw [show k + 1 - 6 = 0 from by omega] at z
        exact z.elim
      · rw [show k + 1 - 6 = (k - 6) + 1 from by omega] at z
        obtain ⟨z0, zt, p, z1, z2, z3⟩ := z
        refine ⟨z0, zt, ?_⟩
        rw [← z2]
        exact (c p z1).2.2.1 t zt (gm_fs_mo (fun n x => fx_le (gm_uM G) y (gm_U6 x)) (fun n x => x) z3)
    · rcases Nat.lt_or_ge k 12 with y | y
      · rw [show k + 1 - 12 = 0 from by omega] at z
        exact z.elim
      · rw [show k + 1 - 12 = (k - 12) + 1 from by omega] at z
        obtain ⟨z0, zt, z⟩ := z
        refine ⟨z0, by omega, ?_⟩
        rcases z with ⟨e1, e2⟩ | ⟨p, m, z1, z2, z3, z4⟩
        · subst e1 e2
          exact b.2.2.2 0 (by omega) 10 h0
        · refine (c p z1).2.2.2 m z2 n t z3 (z4.elim (fun x => Or.inl ⟨x.1, gm_fs_mo (fun n x => fx_le (gm_uM G) (by omega) (gm_U6 x)) (fun n x => fx_le (gm_fM G t) (by omega) (gm_F6 x)) x.2⟩) (fun x => Or.inr ⟨gm_pn_mo (fun n x => fx_le (gm_uM G) (by omega) (gm_U6 x)) x.1, x.2⟩))
theorem ym_b82 (hG : gm_ok G) (hy : yg_ok G f_np a_pRule a_pScope a_pLen a_sym a_role) {p : Nat} (hp : p < gm_n G) (post : Int32 → SY → Prop) (J61 : _) {A : Nat → Prop} (hJ : ∀ x1, (∀ n, n < 6 → (bt x1 n = true ↔ A n ∨ ∃ m, m < gm_l G p ∧ gm_s G p m = 10 + n)) → J61 x1 (nI (p + 1))) :
    ∀ d m x1, m + d = gm_l G p → (∀ n, n < 6 → (bt x1 n = true ↔ A n ∨ ∃ m', m' < m ∧ gm_s G p m' = 10 + n)) → wY_build_82 post J61 (nI p) f_np f_built f_some f_empty f_wn f_nt a_pRule a_pScope a_pLen a_sym a_role a_first a_follow a_kind a_val a_len a_word a_reach a_beyond a_way a_known a_bad a_part a_scopes a_inner a_tRule a_tFrom a_tTo a_before (d + 1) x1 (nI m) := by
  obtain ⟨h14, h6, hl, hs16⟩ := gm_p0 hG hp
  obtain ⟨_, _, e3, e4⟩ := hy.2 p hp
  have i1 : vp_in (nI p) 14 := vp_in_nI h14 (by omega)
  have c1 : (nI p).toNatClampNeg = p := nI_clamp (by omega)
  intro d
  induction d with
  | zero =>
    intro m x1 hm hI
    have e : m = gm_l G p := by omega
    subst e
    rw [wY_build_82]
    dsimp only
    rw [c1, e3]
    exact ⟨i1, br_t (nI_le (by omega) (by omega)) (nm_r (nI_1 p) (hJ x1 hI))⟩
  | succ d ih =>
    intro m x1 hm hI
    have h16 := hs16 m (by omega)
    have c2 : (nI (p * 4 + m)).toNatClampNeg = p * 4 + m := nI_clamp (by omega)
    have i2 : vp_in (nI (p * 4 + m)) 56 := vp_in_nI (by omega) (by omega)
    rw [wY_build_82]
    dsimp only
    rw [c1, e3, ba_4x, c2, (e4 m (by omega)).1]
    refine ⟨i1, br_f (nI_ge (by omega) (by omega)) ⟨i2, pk_le (gm_s G p m) 9 (fun z => nm_r (nI_1 m) (ih (m + 1) x1 (by omega) (fun n hn => (hI n hn).trans ?_))) (fun z => ⟨i2, nm_e (nm_r (nI_1 m) (ih (m + 1) _ (by omega) (fun n hn => ?_)))⟩)⟩⟩
    · constructor
      · rintro (h | ⟨m', a, b⟩)
        · exact Or.inl h
        · exact Or.inr ⟨m', by omega, b⟩
      · rintro (h | ⟨m', a, b⟩)
        · exact Or.inl h
        · rcases Nat.lt_or_ge m' m with y | y
          · exact Or.inr ⟨m', y, b⟩
          · have e : m' = m := by omega
            subst e; omega
    · rw [ba_m10 (by omega), ba_oone (by omega), hI n hn]
      constructor
      · rintro ((h | ⟨m', a, b⟩) | h)
        · exact Or.inl h
        · exact Or.inr ⟨m', by omega, b⟩
        · exact Or.inr ⟨m, by omega, by omega⟩
      · rintro (h | ⟨m', a, b⟩)
        · exact Or.inl (Or.inl h)
        · rcases Nat.lt_or_ge m' m with y | y
          · exact Or.inl (Or.inr ⟨m', y, b⟩)
          · have e : m' = m := by omega
            subst e
            exact Or.inr (by omega)
theorem ym_b61 (hG : gm_ok G) (hy : yg_ok G f_np a_pRule a_pScope a_pLen a_sym a_role) (post : Int32 → SY → Prop) (hP : ∀ x1, (∀ n, n < 6 → (bt x1 n = true ↔ gm_us G n)) → ∃ f, wY_build_139 post x1 f 0 f_np f_built f_some f_empty f_wn f_nt a_pRule a_pScope a_pLen a_sym a_role a_first a_follow a_kind a_val a_len a_word a_reach a_beyond a_way a_known a_bad a_part a_scopes a_inner a_tRule a_tFrom a_tTo a_before) :
    ∀ d p x1, p + d = gm_n G → (∀ n, n < 6 → (bt x1 n = true ↔ n = 0 ∨ ∃ p', p' < p ∧ (gm_r G p' = n ∨ ∃ m, m < gm_l G p' ∧ gm_s G p' m = 10 + n))) → wY_build_61 post f_np f_built f_some f_empty f_wn f_nt a_pRule a_pScope a_pLen a_sym a_role a_first a_follow a_kind a_val a_len a_word a_reach a_beyond a_way a_known a_bad a_part a_scopes a_inner a_tRule a_tFrom a_tTo a_before (d + 1) x1 (nI p) := by
  have h14 := hG.1
  have e0 := hy.1
  intro d
  induction d with
  | zero =>
    intro p x1 hp hI
    have e : p = gm_n G := by omega
    subst e
    rw [wY_build_61]
    dsimp only
    exact br_t (by rw [e0]; exact nI_le (by omega) (by omega)) (hP x1 hI)
  | succ d ih =>
    intro p x1 hp hI
    have hpn : p < gm_n G := by omega
    obtain ⟨_, h6, hl, hs16⟩ := gm_p0 hG hpn
    have c1 : (nI p).toNatClampNeg = p := nI_clamp (by omega)
    rw [wY_build_61]
    dsimp only
    rw [c1, (hy.2 p hpn).1]
    refine br_f (by rw [e0]; exact nI_ge (by omega) (by omega)) ⟨vp_in_nI (by omega) (by omega), nm_e ⟨gm_l G p + 1, ym_b82 (A := fun n => (n = 0 ∨ ∃ p', p' < p ∧ (gm_r G p' = n ∨ ∃ m, m < gm_l G p' ∧ gm_s G p' m = 10 + n)) ∨ n = gm_r G p) hG hy hpn post _ (fun x1' hx => ih (p + 1) x1' (by omega) (fun n hn => (hx n hn).trans ?_)) (gm_l G p) 0 _ (by omega) (fun n hn => ?_)⟩⟩
    · constructor
      · rintro (((h | ⟨p', a, b⟩) | h) | h)
        · exact Or.inl h
        · exact Or.inr ⟨p', by omega, b⟩
        · exact Or.inr ⟨p, by omega, Or.inl h.symm⟩
        · exact Or.inr ⟨p, by omega, Or.inr h⟩
      · rintro (h | ⟨p', a, b⟩)
        · exact Or.inl (Or.inl (Or.inl h))
        · rcases Nat.lt_or_ge p' p with y | y
          · exact Or.inl (Or.inl (Or.inr ⟨p', y, b⟩))
          · have e : p' = p := by omega
            subst e
            exact b.elim (fun z => Or.inl (Or.inr z.symm)) Or.inr
    · rw [ba_oone (by omega), hI n hn]
      exact ⟨Or.inl, fun h => h.elim id (fun ⟨m', a, _⟩ => by omega)⟩
theorem ym_b23 (post : Int32 → SY → Prop) (hP : ∀ F W, (∀ n, n < 6 → F n = 0 ∧ W n = if n = 0 then 1024 else 0) → ∃ f, wY_build_61 post f_np f_built f_some f_empty f_wn f_nt a_pRule a_pScope a_pLen a_sym a_role F W a_kind a_val a_len a_word a_reach a_beyond a_way a_known a_bad a_part a_scopes a_inner a_tRule a_tFrom a_tTo a_before f 1 0) :
    ∀ d k F W, k + d = 6 → (∀ n, n < k → F n = 0 ∧ W n = if n = 0 then 1024 else 0) → wY_build_23 post 1 f_np f_built f_some f_empty f_wn f_nt (d + 1) (nI k) a_pRule a_pScope a_pLen a_sym a_role F W a_kind a_val a_len a_word a_reach a_beyond a_way a_known a_bad a_part a_scopes a_inner a_tRule a_tFrom a_tTo a_before := by
  intro d
  induction d with
  | zero =>
    intro k F W hk hI
    rw [wY_build_23]
    dsimp only
    exact br_t (nI_le (a := 6) (by omega) (by omega)) (hP F W (fun n hn => hI n (by omega)))
  | succ d ih =>
    intro k F W hk hI
    have c1 : (nI k).toNatClampNeg = k := nI_clamp (by omega)
    have i1 : vp_in (nI k) 6 := vp_in_nI (by omega) (by omega)
    rw [wY_build_23]
    dsimp only
    rw [c1]
    refine br_f (nI_ge (b := 6) (by omega) (by omega)) ⟨i1, nm_e (pk_eq k 0 (fun h => ⟨i1, nm_e (nm_r (nI_1 k) (ih (k + 1) _ _ (by omega) (fun n hn => ?_)))⟩) (fun h => ⟨i1, nm_e (nm_r (nI_1 k) (ih (k + 1) _ _ (by omega) (fun n hn => ?_)))⟩))⟩
    · rcases Classical.em (n = k) with e | e
      · subst e
        rw [pk_us, pk_us, if_pos h]
        exact ⟨rfl, rfl⟩
      · rw [pk_un e, pk_un e]
        exact hI n (by omega)
    · rcases Classical.em (n = k) with e | e
      · subst e
        rw [pk_us, pk_us, if_neg h]
        exact ⟨rfl, rfl⟩
      · rw [pk_un e, pk_un e]
        exact hI n (by omega)
theorem ym_build (hG : gm_ok G) (hy : yg_ok G f_np a_pRule a_pScope a_pLen a_sym a_role) (hb : f_built = 0) (post : Int32 → SY → Prop) (hP : ∀ r b sm em F W, bd_r G r b → post r (f_np, rb b, sm, em, f_wn, f_nt, a_pRule, a_pScope, a_pLen, a_sym, a_role, F, W, a_kind, a_val, a_len, a_word, a_reach, a_beyond, a_way, a_known, a_bad, a_part, a_scopes, a_inner, a_tRule, a_tFrom, a_tTo, a_before)) : wpY_build post (f_np, f_built, f_some, f_empty, f_wn, f_nt, a_pRule, a_pScope, a_pLen, a_sym, a_role, a_first, a_follow, a_kind, a_val, a_len, a_word, a_reach, a_beyond, a_way, a_known, a_bad, a_part, a_scopes, a_inner, a_tRule, a_tFrom, a_tTo, a_before) := by
  unfold wpY_build
  dsimp only
  refine br_t hb ⟨6 + 1, ?_⟩
  refine ym_b23 (f_some := 0) (f_empty := 0) post (fun F W hI => ⟨gm_n G + 1, ?_⟩) 6 0 a_first a_follow (by omega) (fun n h => by omega)
  refine ym_b61 hG hy post (fun x1 hx => ⟨100 + 1, ?_⟩) (gm_n G) 0 1 (by omega) (fun n hn => ?_)
  · refine ym_b139 hG hy hb hx post hP 100 0 0 0 F W (by omega) ⟨fun n _ z => ?_, fun n _ z => ?_, fun n hn t ht z => ?_, fun n hn t ht z => ?_⟩ ?_ ⟨fun n z => z.elim, fun n z => z.elim, fun t n z => z.elim, fun t n z => z.elim⟩
    · rw [b_0] at z; exact absurd z (by decide)
    · rw [b_0] at z; exact absurd z (by decide)
    · rw [(hI n hn).1, b_0] at z; exact absurd z (by decide)
    · rw [(hI n hn).2] at z
      split at z
      · next e =>
        subst e
        rw [ba_1024 t ht] at z
        have e : t = 10 := by simpa using z
        subst e
        exact gm_We.mpr ⟨by omega, by omega, Or.inl ⟨rfl, rfl⟩⟩
      · rw [b_0] at z; exact absurd z (by decide)
    · rw [(hI 0 (by omega)).2, if_pos rfl]
      exact ba_1024 10 (by omega)
  · rw [ba_1 n (by omega), decide_eq_true_iff]
    exact ⟨Or.inl, fun h => h.elim id (fun ⟨p', a, _⟩ => by omega)⟩
end
end
section
/-! Y's recognition: walk -/
theorem ek_if {c d A B : Prop} (e : c ↔ d) (f : d → A) (g : ¬ d → B) : (c → A) ∧ (¬ c → B) :=
  ⟨fun z => f (e.mp z), fun z => g (fun y => z (e.mpr y))⟩
def yt_R (a_reach : Nat → Int32) (wn n j t : Nat) : Prop := n < 6 ∧ j ≤ wn ∧ t < 32 ∧ bt (a_reach (n * 22 + j)) t = true
def yt_w (w : Nat → Nat) (wn : Nat) (f_wn : Int32) (a_word : Nat → Int32) : Prop := f_wn = nI wn ∧ wn ≤ 21 ∧ (∀ x, x < wn → a_word x = nI (w x) ∧ w x < 10) ∧ ∀ x, wn ≤ x → w x = 10
def yw_c (G : gm_G) (wn : Nat) (BE : Nat → Int32) (p m k : Nat) : Prop := k = wn ∨ (10 ≤ gm_s G p m ∧ bt (BE (gm_s G p m - 10)) k = true)
def yw_p (G : gm_G) (w : Nat → Nat) (wn : Nat) (RE BE : Nat → Int32) (p i : Nat) : Prop := (∃ m k, m < gm_l G p ∧ k ≤ wn ∧ dr_sg G (yt_R RE wn) w p m 0 i k ∧ yw_c G wn BE p m k) ∨ dr_sg G (yt_R RE wn) w p (gm_l G p) 0 i wn
def yw_f (x : Int32) (P : Prop) : Prop := (x = 1 ∧ P) ∨ (x = 0 ∧ ¬ P)
theorem yw_fi {x : Int32} {P Q : Prop} (h : P ↔ Q) (a : yw_f x P) : yw_f x Q := a.elim (fun z => Or.inl ⟨z.1, h.mp z.2⟩) (fun z => Or.inr ⟨z.1, fun y => z.2 (h.mpr y)⟩)
section
variable {f_np f_built f_some f_empty f_wn f_nt : Int32} {a_pRule a_pScope a_pLen a_sym a_role a_first a_follow a_kind a_val a_len a_word a_reach a_beyond a_way a_known a_bad a_part a_scopes a_inner a_tRule a_tFrom a_tTo a_before : Nat → Int32} {G : gm_G}
theorem ym_w114 {w : Nat → Nat} {wn : Nat} (hw : yt_w w wn f_wn a_word) {m k s : Nat} (hm : m < 4) (hk : k ≤ wn) (hs : s < 16) (post : Int32 → SY → Prop) (J14 J51 : _) (x1 x3 : Int32) (hJ : ∀ WY, (∀ m', m' ≠ m + 1 → WY m' = a_way m') → (∀ t, t < 32 → (bt (WY (m + 1)) t = true ↔ bt (a_way (m + 1)) t = true ∨ dr_sy (yt_R a_reach wn) w s k t)) → J51 x3 (nI (k + 1)) a_pRule a_pScope a_pLen a_sym a_role a_first a_follow a_kind a_val a_len a_word a_reach a_beyond WY a_known a_bad a_part a_scopes a_inner a_tRule a_tFrom a_tTo a_before) : wY_walk_114 post J14 J51 x1 x3 (nI m) (nI s) (nI k) f_np f_built f_some f_empty f_wn f_nt a_pRule a_pScope a_pLen a_sym a_role a_first a_follow a_kind a_val a_len a_word a_reach a_beyond a_way a_known a_bad a_part a_scopes a_inner a_tRule a_tFrom a_tTo a_before := by
  obtain ⟨h1, h2, h3, h4⟩ := hw
  have cM : (nI (m + 1)).toNatClampNeg = m + 1 := nI_clamp (by omega)
  have iM : vp_in (nI (m + 1)) 5 := vp_in_nI (by omega) (by omega)
  have cK : (nI k).toNatClampNeg = k := nI_clamp (by omega)
  unfold wY_walk_114
  rw [nI_1 m, nI_1 k, cM]
  refine pk_le s 9 (fun z => ?_) (fun z => ?_)
  · rcases Nat.lt_or_ge k wn with y | y
    · refine br_f (by rw [h1]; exact nI_ge y (by omega)) ?_
      rw [cK, (h3 k y).1]
      have hwk := (h3 k y).2
      refine ⟨vp_in_nI (by omega) (by omega), pk_eq (w k) s (fun e => ⟨iM, iM, nm_e (nm_e (hJ _ (fun m' h => pk_un h) (fun t ht => ?_)))⟩) (fun e => nm_e (hJ a_way (fun _ _ => rfl) (fun t ht => ⟨Or.inl, fun h => h.elim id (fun q => ?_)⟩)))⟩
      · rw [pk_us, b_or, ba_two k (by omega) t ht, Bool.or_eq_true, decide_eq_true_iff]
        unfold dr_sy
        constructor
        · rintro (h | h)
          · exact Or.inl h
          · exact Or.inr (Or.inl ⟨by omega, e, h⟩)
        · rintro (h | h | h)
          · exact Or.inl h
          · exact Or.inr h.2.2
          · omega
      · rcases q with q | q
        · exact absurd q.2.1 e
        · omega
    · refine br_t (by rw [h1]; exact nI_le y (by omega)) (nm_e (hJ a_way (fun _ _ => rfl) (fun t ht => ⟨Or.inl, fun h => h.elim id (fun q => ?_)⟩)))
      have := h4 k y
      rcases q with q | q
      · omega
      · omega
  · have cI : (nI ((s - 10) * 22 + k)).toNatClampNeg = (s - 10) * 22 + k := nI_clamp (by omega)
    rw [ba_m10 (by omega), ba_22x, cI]
    refine ⟨iM, vp_in_nI (by omega) (by omega), iM, nm_e (nm_e (hJ _ (fun m' h => pk_un h) (fun t ht => ?_)))⟩
    rw [pk_us, b_or, Bool.or_eq_true]
    unfold dr_sy yt_R
    constructor
    · rintro (h | h)
      · exact Or.inl h
      · exact Or.inr (Or.inr ⟨by omega, by omega, hk, ht, h⟩)
    · rintro (h | h | h)
      · exact Or.inl h
      · omega
      · exact Or.inr h.2.2.2.2
theorem ym_w51 (hG : gm_ok G) {w : Nat → Nat} {wn : Nat} (hw : yt_w w wn f_wn a_word) {p m : Nat} (hp : p < gm_n G) (hm : m < gm_l G p) {A : Nat → Prop} {fl : Prop} {W0 : Nat → Int32} (hA : ∀ t, t < 32 → (bt (W0 m) t = true ↔ A t)) (post : Int32 → SY → Prop) (J14 : _) (x1 : Int32) (hJ : ∀ x3 WY, yw_f x3 (fl ∨ ∃ k, k ≤ wn ∧ A k ∧ yw_c G wn a_beyond p m k) → (∀ m', m' ≠ m + 1 → WY m' = W0 m') → (∀ t, t < 32 → (bt (WY (m + 1)) t = true ↔ ∃ k, k ≤ wn ∧ A k ∧ dr_sy (yt_R a_reach wn) w (gm_s G p m) k t)) → J14 x3 (nI (m + 1)) a_pRule a_pScope a_pLen a_sym a_role a_first a_follow a_kind a_val a_len a_word a_reach a_beyond WY a_known a_bad a_part a_scopes a_inner a_tRule a_tFrom a_tTo a_before) :
    ∀ d k x3 WY, k + d = wn + 1 → yw_f x3 (fl ∨ ∃ k', k' < k ∧ A k' ∧ yw_c G wn a_beyond p m k') → (∀ m', m' ≠ m + 1 → WY m' = W0 m') → (∀ t, t < 32 → (bt (WY (m + 1)) t = true ↔ ∃ k', k' < k ∧ A k' ∧ dr_sy (yt_R a_reach wn) w (gm_s G p m) k' t)) → wY_walk_51 post J14 x1 (nI m) (nI (gm_s G p m)) f_np f_built f_some f_empty f_wn f_nt (d + 1) x3 (nI k) a_pRule a_pScope a_pLen a_sym a_role a_first a_follow a_kind a_val a_len a_word a_reach a_beyond WY a_known a_bad a_part a_scopes a_inner a_tRule a_tFrom a_tTo a_before := by
  obtain ⟨h14, h6, hl, hs16⟩ := gm_p0 hG hp
  have hs := hs16 m hm
  have hw0 := hw
  obtain ⟨h1, h2, h3, h4⟩ := hw
  have cM : (nI m).toNatClampNeg = m := nI_clamp (by omega)
  intro d
  induction d with
  | zero =>
    intro k x3 WY hk hf ho hb
    have e : k = wn + 1 := by omega
    subst e
    rw [wY_walk_51]
    dsimp only
    refine br_t (by rw [h1]; exact nI_lt (by omega) (by omega)) (nm_r (nI_1 m) (hJ x3 WY (yw_fi ?_ hf) ho (fun t ht => (hb t ht).trans ?_)))
    · exact ⟨fun z => z.elim Or.inl (fun ⟨k', a, b⟩ => Or.inr ⟨k', by omega, b⟩), fun z => z.elim Or.inl (fun ⟨k', a, b⟩ => Or.inr ⟨k', by omega, b⟩)⟩
    · exact ⟨fun ⟨k', a, b⟩ => ⟨k', by omega, b⟩, fun ⟨k', a, b⟩ => ⟨k', by omega, b⟩⟩
  | succ d ih =>
    intro k x3 WY hk hf ho hb
    have hkw : k ≤ wn := by omega
    have hbit : bt (WY m) k = true ↔ A k := by
      rw [ho m (by omega)]; exact hA k (by omega)
    rw [wY_walk_51]
    dsimp only
    rw [cM]
    refine br_f (by rw [h1]; exact nI_nlt (by omega) (by omega)) ⟨vp_in_nI (by omega) (by omega), ?_⟩
    rcases Classical.em (A k) with hAk | hAk
    · refine br_f (by rw [ba_sh (by omega), hbit.mpr hAk]; decide) ?_
      -- the step after the flag
      have go : ∀ x3', yw_f x3' (fl ∨ ∃ k', k' < k + 1 ∧ A k' ∧ yw_c G wn a_beyond p m k') → wY_walk_114 post J14 (wY_walk_51 post J14 x1 (nI m) (nI (gm_s G p m)) f_np f_built f_some f_empty f_wn f_nt (d + 1)) x1 x3' (nI m) (nI (gm_s G p m)) (nI k) f_np f_built f_some f_empty f_wn f_nt a_pRule a_pScope a_pLen a_sym a_role a_first a_follow a_kind a_val a_len a_word a_reach a_beyond WY a_known a_bad a_part a_scopes a_inner a_tRule a_tFrom a_tTo a_before := by
        intro x3' hf'
        refine ym_w114 hw0 (by omega) hkw hs post J14 _ x1 x3' (fun WY' o' b' => ih (k + 1) x3' WY' (by omega) hf' (fun m' hm' => (o' m' hm').trans (ho m' hm')) (fun t ht => ?_))
        rw [b' t ht, hb t ht]
        constructor
        · rintro (⟨k', a, b⟩ | h)
          · exact ⟨k', by omega, b⟩
          · exact ⟨k, by omega, hAk, h⟩
        · rintro ⟨k', a, b⟩
          rcases Nat.lt_or_ge k' k with y | y
          · exact Or.inl ⟨k', y, b⟩
          · have e : k' = k := by omega
            subst e; exact Or.inr b.2
      have ft : yw_c G wn a_beyond p m k → yw_f 1 (fl ∨ ∃ k', k' < k + 1 ∧ A k' ∧ yw_c G wn a_beyond p m k') := fun z => Or.inl ⟨rfl, Or.inr ⟨k, by omega, hAk, z⟩⟩
      have ff : ¬ yw_c G wn a_beyond p m k → yw_f x3 (fl ∨ ∃ k', k' < k + 1 ∧ A k' ∧ yw_c G wn a_beyond p m k') := fun z => yw_fi ⟨fun q => q.elim Or.inl (fun ⟨k', a, b⟩ => Or.inr ⟨k', by omega, b⟩), fun q => q.elim Or.inl (fun ⟨k', a, b⟩ => by
        rcases Nat.lt_or_ge k' k with y | y
        · exact Or.inr ⟨k', y, b⟩
        · have e : k' = k := by omega
          subst e; exact absurd b.2 z)⟩ hf
      unfold wY_walk_112
      rw [h1]
      rw [← h1]
      refine ek_if (c := nI k = f_wn) (d := k = wn) (by rw [h1]; exact nI_eq (by omega) (by omega)) (fun e => go 1 (ft (Or.inl e))) (fun e => pk_le (gm_s G p m) 9 (fun z => go x3 (ff (fun y => y.elim e (fun q => by omega)))) (fun z => ?_))
      have cS : (nI (gm_s G p m - 10)).toNatClampNeg = gm_s G p m - 10 := nI_clamp (by omega)
      rw [ba_m10 (by omega), cS]
      refine ⟨vp_in_nI (by omega) (by omega), ?_⟩
      rcases Classical.em (bt (a_beyond (gm_s G p m - 10)) k = true) with q | q
      · exact br_f (by rw [ba_sh (by omega), q]; decide) (go 1 (ft (Or.inr ⟨by omega, q⟩)))
      · exact br_t ((ba_sh (by omega)).mpr (by cases h : bt (a_beyond (gm_s G p m - 10)) k <;> simp_all)) (go x3 (ff (fun y => y.elim e (fun r => q r.2))))
    · refine br_t ((ba_sh (by omega)).mpr (by cases h : bt (WY m) k <;> simp_all)) (nm_r (nI_1 k) (ih (k + 1) x3 WY (by omega) (yw_fi ?_ hf) ho (fun t ht => (hb t ht).trans ?_)))
      · exact ⟨fun q => q.elim Or.inl (fun ⟨k', a, b⟩ => Or.inr ⟨k', by omega, b⟩), fun q => q.elim Or.inl (fun ⟨k', a, b⟩ => by
          rcases Nat.lt_or_ge k' k with y | y
          · exact Or.inr ⟨k', y, b⟩
          · have e : k' = k := by omega
            subst e; exact absurd b.1 hAk)⟩
      · exact ⟨fun ⟨k', a, b⟩ => ⟨k', by omega, b⟩, fun ⟨k', a, b⟩ => by
          rcases Nat.lt_or_ge k' k with y | y
          · exact ⟨k', y, b⟩
          · have e : k' = k := by omega
            subst e; exact absurd b.1 hAk⟩
theorem yt_ub {w : Nat → Nat} {wn : Nat} {RE : Nat → Int32} (h4 : ∀ x, wn ≤ x → w x = 10) (hb : ∀ n j t, yt_R RE wn n j t → t ≤ wn) {p i : Nat} (hi : i ≤ wn) : ∀ m k, dr_sg G (yt_R RE wn) w p m 0 i k → k ≤ wn
  | 0, k, h => by have h : i = k := h; omega
  | m + 1, k, h => by
    obtain ⟨q, a, b⟩ := dr_ns h
    have l := yt_ub h4 hb hi m q a
    rcases b with ⟨b1, b2, b3⟩ | ⟨_, b⟩
    · rcases Nat.lt_or_ge q wn with z | z
      · omega
      · have := h4 q z; omega
    · exact hb _ _ _ b
theorem ym_w14 (hG : gm_ok G) (hy : yg_ok G f_np a_pRule a_pScope a_pLen a_sym a_role) {w : Nat → Nat} {wn : Nat} (hw : yt_w w wn f_wn a_word) (hb : ∀ n j t, yt_R a_reach wn n j t → t ≤ wn) {p i : Nat} (hp : p < gm_n G) (hi : i ≤ wn) (post : Int32 → SY → Prop) (hP : ∀ r WY, yw_f r (yw_p G w wn a_reach a_beyond p i) → (∀ m, m ≤ gm_l G p → ∀ t, t < 32 → (bt (WY m) t = true ↔ dr_sg G (yt_R a_reach wn) w p m 0 i t)) → post r (f_np, f_built, f_some, f_empty, f_wn, f_nt, a_pRule, a_pScope, a_pLen, a_sym, a_role, a_first, a_follow, a_kind, a_val, a_len, a_word, a_reach, a_beyond, WY, a_known, a_bad, a_part, a_scopes, a_inner, a_tRule, a_tFrom, a_tTo, a_before)) :
    ∀ d m x3 WY, m + d = gm_l G p → yw_f x3 (∃ m' k, m' < m ∧ k ≤ wn ∧ dr_sg G (yt_R a_reach wn) w p m' 0 i k ∧ yw_c G wn a_beyond p m' k) → (∀ m', m' ≤ m → ∀ t, t < 32 → (bt (WY m') t = true ↔ dr_sg G (yt_R a_reach wn) w p m' 0 i t)) → wY_walk_14 post (nI p) f_np f_built f_some f_empty f_wn f_nt (d + 1) x3 (nI m) a_pRule a_pScope a_pLen a_sym a_role a_first a_follow a_kind a_val a_len a_word a_reach a_beyond WY a_known a_bad a_part a_scopes a_inner a_tRule a_tFrom a_tTo a_before := by
  obtain ⟨h14, h6, hl, hs16⟩ := gm_p0 hG hp
  obtain ⟨_, _, e3, e4⟩ := hy.2 p hp
  have i1 : vp_in (nI p) 14 := vp_in_nI h14 (by omega)
  have c1 : (nI p).toNatClampNeg = p := nI_clamp (by omega)
  have hw0 := hw
  obtain ⟨h1, h2, h3, h4⟩ := hw
  intro d
  induction d with
  | zero =>
    intro m x3 WY hm hf hB
    have e : m = gm_l G p := by omega
    subst e
    have cL : (nI (gm_l G p)).toNatClampNeg = gm_l G p := nI_clamp (by omega)
    have hbit := hB (gm_l G p) (Nat.le_refl _) wn (by omega)
    rw [wY_walk_14]
    dsimp only
    rw [c1, e3, cL]
    refine ⟨i1, br_t (nI_le (by omega) (by omega)) ?_⟩
    rcases hf with ⟨e, hf⟩ | ⟨e, hf⟩
    · subst e
      obtain ⟨m', k, q⟩ := hf
      exact br_f (by decide) (hP 1 WY (Or.inl ⟨rfl, Or.inl ⟨m', k, q⟩⟩) hB)
    · subst e
      refine br_t rfl ⟨i1, vp_in_nI (by omega) (by omega), ?_⟩
      rw [h1]
      rw [← h1]
      rcases Classical.em (dr_sg G (yt_R a_reach wn) w p (gm_l G p) 0 i wn) with z | z
      · refine br_f ?_ (hP 1 WY (Or.inl ⟨rfl, Or.inr z⟩) hB)
        rw [h1, ba_sh (by omega), hbit.mpr z]; decide
      · refine br_t ?_ (hP 0 WY (Or.inr ⟨rfl, fun y => y.elim (fun ⟨m', k, q⟩ => hf ⟨m', k, q⟩) z⟩) hB)
        rw [h1, ba_sh (by omega)]
        cases h : bt (WY (gm_l G p)) wn
        · rfl
        · exact absurd (hbit.mp h) z
  | succ d ih =>
    intro m x3 WY hm hf hB
    have hm2 : m < gm_l G p := by omega
    have h16 := hs16 m hm2
    have c2 : (nI (p * 4 + m)).toNatClampNeg = p * 4 + m := nI_clamp (by omega)
    have i2 : vp_in (nI (p * 4 + m)) 56 := vp_in_nI (by omega) (by omega)
    have cM : (nI (m + 1)).toNatClampNeg = m + 1 := nI_clamp (by omega)
    rw [wY_walk_14]
    dsimp only
    rw [c1, e3, ba_4x, c2, (e4 m hm2).1, nI_1 m, cM]
    refine ⟨i1, br_f (nI_ge (by omega) (by omega)) ⟨i2, nm_e ⟨vp_in_nI (by omega) (by omega), nm_e ⟨wn + 1 + 1, ?_⟩⟩⟩⟩
    refine ym_w51 hG hw0 hp hm2 (A := fun k => dr_sg G (yt_R a_reach wn) w p m 0 i k) (fl := ∃ m' k, m' < m ∧ k ≤ wn ∧ dr_sg G (yt_R a_reach wn) w p m' 0 i k ∧ yw_c G wn a_beyond p m' k) (W0 := upd WY (m + 1) 0) (fun t ht => ?_) post _ (nI p) (fun x3' WY' f' o' b' => ih (m + 1) x3' WY' (by omega) (yw_fi ?_ f') (fun m' hm' t ht => ?_)) (wn + 1) 0 x3 _ (by omega) (yw_fi ?_ hf) (fun _ _ => rfl) (fun t ht => ?_)
    · rw [pk_un (by omega)]; exact hB m (Nat.le_refl _) t ht
    · constructor
      · rintro (⟨m', k, a, b⟩ | ⟨k, a, b, c⟩)
        · exact ⟨m', k, by omega, b⟩
        · exact ⟨m, k, by omega, a, b, c⟩
      · rintro ⟨m', k, a, b, c, e⟩
        rcases Nat.lt_or_ge m' m with y | y
        · exact Or.inl ⟨m', k, y, b, c, e⟩
        · have q : m' = m := by omega
          subst q; exact Or.inr ⟨k, b, c, e⟩
    · rcases Nat.lt_or_ge m' (m + 1) with y | y
      · rw [o' m' (by omega), pk_un (by omega)]
        exact hB m' (by omega) t ht
      · have q : m' = m + 1 := by omega
        subst q
        rw [b' t ht]
        constructor
        · rintro ⟨k, a, b, c⟩
          exact dr_sn b c
        · intro h
          obtain ⟨k, a, b⟩ := dr_ns h
          exact ⟨k, yt_ub h4 hb hi m k a, a, b⟩
    · exact ⟨Or.inl, fun z => z.elim id (fun ⟨k', a, _⟩ => by omega)⟩
    · rw [pk_us, b_0]
      exact ⟨fun h => absurd h (by decide), fun ⟨k', a, _⟩ => by omega⟩
theorem ym_walk (hG : gm_ok G) (hy : yg_ok G f_np a_pRule a_pScope a_pLen a_sym a_role) {w : Nat → Nat} {wn : Nat} (hw : yt_w w wn f_wn a_word) (hb : ∀ n j t, yt_R a_reach wn n j t → t ≤ wn) {p i : Nat} (hp : p < gm_n G) (hi : i ≤ wn) (post : Int32 → SY → Prop) (hP : ∀ r WY, yw_f r (yw_p G w wn a_reach a_beyond p i) → (∀ m, m ≤ gm_l G p → ∀ t, t < 32 → (bt (WY m) t = true ↔ dr_sg G (yt_R a_reach wn) w p m 0 i t)) → post r (f_np, f_built, f_some, f_empty, f_wn, f_nt, a_pRule, a_pScope, a_pLen, a_sym, a_role, a_first, a_follow, a_kind, a_val, a_len, a_word, a_reach, a_beyond, WY, a_known, a_bad, a_part, a_scopes, a_inner, a_tRule, a_tFrom, a_tTo, a_before)) : wpY_walk post (f_np, f_built, f_some, f_empty, f_wn, f_nt, a_pRule, a_pScope, a_pLen, a_sym, a_role, a_first, a_follow, a_kind, a_val, a_len, a_word, a_reach, a_beyond, a_way, a_known, a_bad, a_part, a_scopes, a_inner, a_tRule, a_tFrom, a_tTo, a_before) (nI p) (nI i) := by
  have hwn := hw.2.1
  unfold wpY_walk
  dsimp only
  refine nm_e ⟨gm_l G p + 1, ym_w14 hG hy hw hb hp hi post hP (gm_l G p) 0 0 _ (by omega) (Or.inr ⟨rfl, fun ⟨m', k, a, _⟩ => by omega⟩) (fun m' hm' t ht => ?_)⟩
  have e : m' = 0 := by omega
  subst e
  rw [pk_us, ba_one i (by omega) t ht, decide_eq_true_iff]
  exact ⟨fun h => h.symm, fun h => h.symm⟩
end
end
section
/-! Y's recognition: settle, take -/
def yb (G : gm_G) (w : Nat → Nat) (wn n j : Nat) : Prop := ∃ w' t, (∀ x, x < wn → w' x = w x) ∧ wn ≤ t ∧ dr_D G w' n j t
def yt_s (G : gm_G) (w : Nat → Nat) (wn : Nat) (RE BE : Nat → Int32) : Prop := (∀ n j t, yt_R RE wn n j t → dr_D G w n j t) ∧ ∀ n, n < 6 → gm_us G n → ∀ j, j ≤ wn → bt (BE n) j = true → yb G w wn n j
def yt_c (G : gm_G) (w : Nat → Nat) (wn i : Nat) (RE BE : Nat → Int32) : Prop := (∀ n j t, i ≤ j → j ≤ wn → dr_D G w n j t → bt (RE (n * 22 + j)) t = true) ∧ ∀ n, n < 6 → gm_us G n → ∀ j, i ≤ j → j ≤ wn → yb G w wn n j → bt (BE n) j = true
theorem dr_D6 {G : gm_G} (hG : gm_ok G) {w : Nat → Nat} {n i j : Nat} (h : dr_D G w n i j) : n < 6 := by
  obtain ⟨p, a, b, _⟩ := dr_D_to h
  rw [← b]; exact (hG.2.1 p a).1
theorem dr_Dub {G : gm_G} {w : Nat → Nat} {wn : Nat} (h4 : ∀ x, wn ≤ x → w x = 10) {n i j : Nat} (hi : i ≤ wn) (h : dr_D G w n i j) : j ≤ wn := by
  rcases Nat.lt_or_ge wn j with z | z
  · have := dr_lt10 h hi z
    rw [h4 wn (Nat.le_refl _)] at this
    omega
  · exact z
theorem yt_sb {G : gm_G} {w : Nat → Nat} {wn : Nat} {RE BE : Nat → Int32} (h4 : ∀ x, wn ≤ x → w x = 10) (hs : yt_s G w wn RE BE) : ∀ n j t, yt_R RE wn n j t → t ≤ wn := fun n j t h => dr_Dub h4 h.2.1 (hs.1 n j t h)
theorem gm_usr {G : gm_G} {p m : Nat} (hp : p < gm_n G) (hm : m < gm_l G p) (hs : 10 ≤ gm_s G p m) : gm_us G (gm_s G p m - 10) := Or.inr ⟨p, hp, Or.inr ⟨m, hm, by omega⟩⟩
theorem gm_usp {G : gm_G} {p : Nat} (hp : p < gm_n G) : gm_us G (gm_r G p) := Or.inr ⟨p, hp, Or.inl rfl⟩
/-- sound: what goes past goes on -/
theorem yt_ps {G : gm_G} (hG : gm_gd G) {w : Nat → Nat} {wn : Nat} {RE BE : Nat → Int32} (hs : yt_s G w wn RE BE) {p i : Nat} (hp : p < gm_n G) (h : yw_p G w wn RE BE p i) : yb G w wn (gm_r G p) i := by
  have up : ∀ m k, dr_sg G (yt_R RE wn) w p m 0 i k → dr_S G w p m 0 i k := fun m k z => dr_sg_m1 hs.1 z
  rcases h with ⟨m, k, h1, h2, h3, h4⟩ | h
  · have h3s := up m k h3
    rcases h4 with h4 | ⟨h4, h5⟩
    · subst h4
      obtain ⟨w', j, a, b, c⟩ := dr_prw hG (Or.inl hp) m w k
      refine ⟨w', j, a, b, dr_D_of hp ?_⟩
      rw [show gm_l G p = m + (gm_l G p - m) from by omega]
      exact dr_app m 0 i (dr_S_w (fun x _ hx => (a x hx).symm) h3s) (by rw [Nat.zero_add]; exact c)
    · have h16 := (gm_p0 hG.1 hp).2.2.2 m h1
      obtain ⟨w1, t, a1, b1, c1⟩ := hs.2 _ (by omega) (gm_usr hp h1 h4) k h2 h5
      obtain ⟨w2, j, a2, b2, c2⟩ := dr_prw hG (Or.inl hp) (m + 1) w1 t
      refine ⟨w2, j, fun x hx => (a2 x (by omega)).trans (a1 x hx), by omega, dr_D_of hp ?_⟩
      have l := dr_D_le _ _ _ c1
      have e1 : dr_S G w2 p m 0 i k := dr_S_w (fun x _ hx => ((a2 x (by omega)).trans (a1 x (by omega))).symm) h3s
      have e2 : dr_S G w2 p (gm_l G p - (m + 1) + 1) m k j := ⟨t, Or.inr ⟨h4, dr_D_w (fun x _ hx => (a2 x hx).symm) c1⟩, c2⟩
      rw [show gm_l G p = m + (gm_l G p - (m + 1) + 1) from by omega]
      exact dr_app m 0 i e1 (by rw [Nat.zero_add]; exact e2)
  · exact ⟨w, wn, fun _ _ => rfl, Nat.le_refl _, dr_D_of hp (up _ _ h)⟩
/-- complete: what goes on goes past -/
theorem yt_sq {G : gm_G} {w w' : Nat → Nat} {wn lv : Nat} {RE BE : Nat → Int32} (ha : ∀ x, x < wn → w' x = w x) {p i t' : Nat} (hp : p < gm_n G) (hR : ∀ n a b, i ≤ a → a ≤ b → b ≤ wn → dr_L G w lv n a b → yt_R RE wn n a b) (hB : ∀ m a b, m < gm_l G p → 10 ≤ gm_s G p m → i ≤ a → a ≤ wn → wn ≤ b → dr_L G w' lv (gm_s G p m - 10) a b → bt (BE (gm_s G p m - 10)) a = true) (ht : wn ≤ t') :
    ∀ c m a, m + c = gm_l G p → dr_sg G (yt_R RE wn) w p m 0 i a → i ≤ a → a ≤ wn → dr_sg G (dr_L G w' lv) w' p c m a t' → yw_p G w wn RE BE p i := by
  intro c
  induction c with
  | zero =>
    intro m a hm h1 h2 h3 h4
    have h4 : a = t' := h4
    have e : a = wn := by omega
    subst e
    exact Or.inr (by rw [show gm_l G p = m from by omega]; exact h1)
  | succ c ih =>
    intro m a hm h1 h2 h3 h4
    rcases Nat.lt_or_ge a wn with z | z
    · obtain ⟨k, x, y⟩ := h4
      have l := dr_sy_le (dr_L_le lv) x
      rcases Nat.lt_or_ge wn k with q | q
      · rcases x with ⟨_, _, x⟩ | ⟨x1, x2⟩
        · omega
        · exact Or.inl ⟨m, a, by omega, h3, h1, Or.inr ⟨x1, hB m a k (by omega) x1 h2 h3 (by omega) x2⟩⟩
      · have sy : dr_sy (yt_R RE wn) w (gm_s G p m) a k := by
          rcases x with ⟨x1, x2, x3⟩ | ⟨x1, x2⟩
          · exact Or.inl ⟨x1, by rw [← ha a z]; exact x2, x3⟩
          · exact Or.inr ⟨x1, hR _ _ _ h2 l q (dr_L_w lv _ _ _ (fun x _ hx => ha x (by omega)) x2)⟩
        exact ih (m + 1) k (by omega) (dr_sn h1 sy) (by omega) q y
    · have e : a = wn := by omega
      subst e
      exact Or.inl ⟨m, a, by omega, Nat.le_refl _, h1, Or.inl rfl⟩
theorem yt_cl {G : gm_G} (hG : gm_ok G) {w : Nat → Nat} {wn i : Nat} {RE BE : Nat → Int32} (h4 : ∀ x, wn ≤ x → w x = 10) (hn : wn ≤ 21) (hi : i ≤ wn) (hc : yt_c G w wn (i + 1) RE BE) (hcl : ∀ p, p < gm_n G → (∀ t, t < 32 → dr_sg G (yt_R RE wn) w p (gm_l G p) 0 i t → bt (RE (gm_r G p * 22 + i)) t = true) ∧ (yw_p G w wn RE BE p i → bt (BE (gm_r G p)) i = true)) : yt_c G w wn i RE BE := by
  have r0 : ∀ lv n t, dr_L G w lv n i t → bt (RE (n * 22 + i)) t = true := by
    intro lv
    induction lv with
    | zero => intro n t h; exact h.elim
    | succ lv ih =>
      intro n t ⟨p, a, b, h⟩
      have l : t ≤ wn := dr_Dub h4 hi ⟨lv + 1, p, a, b, h⟩
      rw [← b]
      refine (hcl p a).1 t (by omega) (dr_sg_mo (lo := i) (hi := t) (dr_L_le lv) (fun n' a' b' l1 l2 z => ?_) (fun _ _ _ => rfl) _ _ i t (Nat.le_refl _) (Nat.le_refl _) h)
      have l3 := dr_L_le lv _ _ _ z
      refine ⟨dr_D6 hG ⟨lv, z⟩, by omega, by omega, ?_⟩
      rcases Nat.lt_or_ge i a' with y | y
      · exact hc.1 n' a' b' y (by omega) ⟨lv, z⟩
      · have e : a' = i := by omega
        subst e
        exact ih n' b' z
  have rr : ∀ n j t, i ≤ j → j ≤ wn → dr_D G w n j t → bt (RE (n * 22 + j)) t = true := by
    intro n j t l1 l2 h
    rcases Nat.lt_or_ge i j with y | y
    · exact hc.1 n j t y l2 h
    · have e : j = i := by omega
      subst e
      obtain ⟨lv, h⟩ := h
      exact r0 lv n t h
  refine ⟨rr, fun n hn6 hu j l1 l2 h => ?_⟩
  rcases Nat.lt_or_ge i j with y | y
  · exact hc.2 n hn6 hu j y l2 h
  · have e : j = i := by omega
    subst e
    obtain ⟨w', t', a1, a2, lv, h⟩ := h
    have key : ∀ lv n t', wn ≤ t' → dr_L G w' lv n j t' → bt (BE n) j = true := by
      intro lv
      induction lv with
      | zero => intro n t' _ h; exact h.elim
      | succ lv ih =>
        intro n t' ht ⟨p, a, b, h⟩
        rw [← b]
        refine (hcl p a).2 (yt_sq (lv := lv) a1 a (fun n' a' b' l1 l2 l3 z => ⟨dr_D6 hG ⟨lv, z⟩, by omega, by omega, rr n' a' b' l1 (by omega) ⟨lv, z⟩⟩) (fun m a' b' hm hs l1 l2 l3 z => ?_) ht (gm_l G p) 0 j (by omega) rfl (Nat.le_refl _) hi h)
        have h16 := (gm_p0 hG a).2.2.2 m hm
        rcases Nat.lt_or_ge j a' with q | q
        · exact hc.2 _ (by omega) (gm_usr a hm hs) a' q l2 ⟨w', b', a1, l3, lv, z⟩
        · have e : a' = j := by omega
          subst e
          exact ih _ b' l3 z
    exact key lv n t' a2 h
/-! the measure of settle -/
def ys_n (x : Int32) : Nat := 4294967296 - x.toBitVec.toNat
theorem ys_n_le (x y : Int32) : ys_n (x ||| y) ≤ ys_n x := by
  unfold ys_n
  have h : x.toBitVec.toNat ≤ (x ||| y).toBitVec.toNat := by
    rw [Int32.toBitVec_or, BitVec.toNat_or]
    exact Nat.left_le_or
  omega
theorem ys_n_lt {x y : Int32} (h : ¬ (x ||| y) = x) : ys_n (x ||| y) < ys_n x := by
  have h1 : x.toBitVec.toNat ≤ (x ||| y).toBitVec.toNat := by
    rw [Int32.toBitVec_or, BitVec.toNat_or]
    exact Nat.left_le_or
  have h2 : x.toBitVec.toNat ≠ (x ||| y).toBitVec.toNat := fun e => h (Int32.toBitVec_inj.mp (BitVec.eq_of_toNat_eq e.symm))
  have h3 := (x ||| y).toBitVec.isLt
  unfold ys_n
  omega
def ys_m (f : Nat → Nat) : Nat → Nat
  | 0 => 0
  | k + 1 => ys_m f k + f k
theorem ys_le {f f' : Nat → Nat} : ∀ {N : Nat}, (∀ k, k < N → f' k ≤ f k) → ys_m f' N ≤ ys_m f N
  | 0, _ => Nat.le_refl _
  | N + 1, h => by
    have a := ys_le (f := f) (f' := f') (N := N) (fun k hk => h k (by omega))
    have b := h N (by omega)
    unfold ys_m; omega
theorem ys_lt {f f' : Nat → Nat} {n : Nat} : ∀ {N : Nat}, (∀ k, k < N → f' k ≤ f k) → n < N → f' n < f n → ys_m f' N < ys_m f N
  | 0, _, h, _ => by omega
  | N + 1, h, hn, hl => by
    have b := h N (by omega)
    unfold ys_m
    rcases Nat.lt_or_ge n N with z | z
    · have a := ys_lt (f := f) (f' := f') (N := N) (fun k hk => h k (by omega)) z hl
      omega
    · have e : n = N := by omega
      subst e
      have a := ys_le (f := f) (f' := f') (N := n) (fun k hk => h k (by omega))
      omega
def ys_u (i : Nat) (RE BE : Nat → Int32) : Nat := ys_m (fun n => ys_n (RE (n * 22 + i))) 6 + ys_m (fun n => ys_n (BE n)) 6
theorem ys_up {i n : Nat} {RE BE : Nat → Int32} {y z : Int32} (hi : i < 22) (hn : n < 6) : ys_u i (upd RE (n * 22 + i) (RE (n * 22 + i) ||| y)) (upd BE n (BE n ||| z)) ≤ ys_u i RE BE ∧ (¬ ((RE (n * 22 + i) ||| y) = RE (n * 22 + i) ∧ (BE n ||| z) = BE n) → ys_u i (upd RE (n * 22 + i) (RE (n * 22 + i) ||| y)) (upd BE n (BE n ||| z)) < ys_u i RE BE) := by
  have a1 : ∀ k, k < 6 → ys_n (upd RE (n * 22 + i) (RE (n * 22 + i) ||| y) (k * 22 + i)) ≤ ys_n (RE (k * 22 + i)) := by
    intro k hk
    rcases Classical.em (k = n) with e | e
    · subst e; rw [pk_us]; exact ys_n_le _ _
    · rw [pk_un (by omega)]; exact Nat.le_refl _
  have a2 : ∀ k, k < 6 → ys_n (upd BE n (BE n ||| z) k) ≤ ys_n (BE k) := by
    intro k hk
    rcases Classical.em (k = n) with e | e
    · subst e; rw [pk_us]; exact ys_n_le _ _
    · rw [pk_un e]; exact Nat.le_refl _
  have b1 := ys_le (f := fun k => ys_n (RE (k * 22 + i))) (f' := fun k => ys_n (upd RE (n * 22 + i) (RE (n * 22 + i) ||| y) (k * 22 + i))) a1
  have b2 := ys_le (f := fun k => ys_n (BE k)) (f' := fun k => ys_n (upd BE n (BE n ||| z) k)) a2
  refine ⟨by unfold ys_u; omega, fun h => ?_⟩
  rcases Classical.em ((RE (n * 22 + i) ||| y) = RE (n * 22 + i)) with q | q
  · have q2 : ¬ (BE n ||| z) = BE n := fun e => h ⟨q, e⟩
    have b3 := ys_lt (f := fun k => ys_n (BE k)) (f' := fun k => ys_n (upd BE n (BE n ||| z) k)) (n := n) a2 hn (by rw [pk_us]; exact ys_n_lt q2)
    unfold ys_u; omega
  · have b3 := ys_lt (f := fun k => ys_n (RE (k * 22 + i))) (f' := fun k => ys_n (upd RE (n * 22 + i) (RE (n * 22 + i) ||| y) (k * 22 + i))) (n := n) a1 hn (by rw [pk_us]; exact ys_n_lt q)
    unfold ys_u; omega
theorem ys_same {A : Nat → Int32} {k : Nat} {x : Int32} (h : x = A k) : upd A k x = A := by
  funext j
  rw [ba_up]; split
  · next e => rw [e]; exact h
  · rfl
theorem yt_cm {G : gm_G} {w : Nat → Nat} {wn i : Nat} {RE BE RE' BE' : Nat → Int32} (h1 : ∀ k t, bt (RE k) t = true → bt (RE' k) t = true) (h2 : ∀ k t, bt (BE k) t = true → bt (BE' k) t = true) (h : yt_c G w wn i RE BE) : yt_c G w wn i RE' BE' :=
  ⟨fun n j t a b c => h1 _ _ (h.1 n j t a b c), fun n hn hu j a b c => h2 _ _ (h.2 n hn hu j a b c)⟩
def yt_P (G : gm_G) (w : Nat → Nat) (wn i p : Nat) (RE BE : Nat → Int32) : Prop := (∀ t, t < 32 → dr_sg G (yt_R RE wn) w p (gm_l G p) 0 i t → bt (RE (gm_r G p * 22 + i)) t = true) ∧ (yw_p G w wn RE BE p i → bt (BE (gm_r G p)) i = true)
section
variable {f_np f_built f_some f_empty f_wn f_nt : Int32} {a_pRule a_pScope a_pLen a_sym a_role a_first a_follow a_kind a_val a_len a_word a_reach a_beyond a_way a_known a_bad a_part a_scopes a_inner a_tRule a_tFrom a_tTo a_before : Nat → Int32} {G : gm_G}
theorem ym_s10 (hG : gm_gd G) (hy : yg_ok G f_np a_pRule a_pScope a_pLen a_sym a_role) {w : Nat → Nat} {wn i : Nat} (hw : yt_w w wn f_wn a_word) (hi : i ≤ wn) {RE0 BE0 : Nat → Int32} (post : SY → Prop) (J2 : _) (hJ0 : ∀ WY, yt_s G w wn RE0 BE0 → yt_c G w wn i RE0 BE0 → J2 0 f_np f_built f_some f_empty f_wn f_nt a_pRule a_pScope a_pLen a_sym a_role a_first a_follow a_kind a_val a_len a_word RE0 BE0 WY a_known a_bad a_part a_scopes a_inner a_tRule a_tFrom a_tTo a_before) (hJ1 : ∀ RE BE WY, yt_s G w wn RE BE → yt_c G w wn (i + 1) RE BE → ys_u i RE BE < ys_u i RE0 BE0 → J2 1 f_np f_built f_some f_empty f_wn f_nt a_pRule a_pScope a_pLen a_sym a_role a_first a_follow a_kind a_val a_len a_word RE BE WY a_known a_bad a_part a_scopes a_inner a_tRule a_tFrom a_tTo a_before) :
    ∀ d p x2 RE BE WY, p + d = gm_n G → yt_s G w wn RE BE → yt_c G w wn (i + 1) RE BE → (x2 = 0 ∧ RE = RE0 ∧ BE = BE0 ∧ (∀ p', p' < p → yt_P G w wn i p' RE0 BE0) ∨ x2 = 1 ∧ ys_u i RE BE < ys_u i RE0 BE0) → wY_settle_10 post J2 (nI i) (d + 1) x2 (nI p) f_np f_built f_some f_empty f_wn f_nt a_pRule a_pScope a_pLen a_sym a_role a_first a_follow a_kind a_val a_len a_word RE BE WY a_known a_bad a_part a_scopes a_inner a_tRule a_tFrom a_tTo a_before := by
  have h14 := hG.1.1
  have e0 := hy.1
  have hw0 := hw
  obtain ⟨h1, h2, h3, h4⟩ := hw
  intro d
  induction d with
  | zero =>
    intro p x2 RE BE WY hp hs hc hx
    rw [wY_settle_10]
    dsimp only
    refine br_t (by rw [e0]; exact nI_le (by omega) (by omega)) ?_
    rcases hx with ⟨rfl, rfl, rfl, hI⟩ | ⟨rfl, hl⟩
    · exact hJ0 WY hs (yt_cl hG.1 h4 h2 hi hc (fun p' hp' => hI p' (by omega)))
    · exact hJ1 RE BE WY hs hc hl
  | succ d ih =>
    intro p x2 RE BE WY hp hs hc hx
    have hpn : p < gm_n G := by omega
    obtain ⟨_, h6, hl, hs16⟩ := gm_p0 hG.1 hpn
    have c1 : (nI p).toNatClampNeg = p := nI_clamp (by omega)
    have i1 : vp_in (nI p) 14 := vp_in_nI (by omega) (by omega)
    have cN : (nI (gm_r G p)).toNatClampNeg = gm_r G p := nI_clamp (by omega)
    have iN : vp_in (nI (gm_r G p)) 6 := vp_in_nI (by omega) (by omega)
    have cI : (nI (gm_r G p * 22 + i)).toNatClampNeg = gm_r G p * 22 + i := nI_clamp (by omega)
    have iI : vp_in (nI (gm_r G p * 22 + i)) 132 := vp_in_nI (by omega) (by omega)
    have cL : (nI (gm_l G p)).toNatClampNeg = gm_l G p := nI_clamp (by omega)
    have iL : vp_in (nI (gm_l G p)) 5 := vp_in_nI (by omega) (by omega)
    rw [wY_settle_10]
    dsimp only
    rw [c1]
    refine br_f (by rw [e0]; exact nI_ge (by omega) (by omega)) ⟨i1, nm_r (hy.2 p hpn).1 ?_⟩
    refine ym_walk hG.1 hy hw0 (yt_sb h4 hs) hpn hi _ (fun r WY' hr hwy => ?_)
    dsimp only
    rw [ba_22x, cI, (hy.2 p hpn).2.2.1, cL, cN]
    refine ⟨iI, i1, iL, nm_e ?_⟩
    have hway := hwy (gm_l G p) (Nat.le_refl _)
    -- the common end: z is what beyond gains
    have fin : ∀ z : Int32, (∀ t, bt z t = true → t = i ∧ yw_p G w wn RE BE p i) → (yw_p G w wn RE BE p i → bt (BE (gm_r G p) ||| z) i = true) → wY_settle_86 post J2 (wY_settle_10 post J2 (nI i) (d + 1)) (nI i) x2 (nI p) (nI (gm_r G p)) (RE (gm_r G p * 22 + i) ||| WY' (gm_l G p)) (BE (gm_r G p) ||| z) f_np f_built f_some f_empty f_wn f_nt a_pRule a_pScope a_pLen a_sym a_role a_first a_follow a_kind a_val a_len a_word RE BE WY' a_known a_bad a_part a_scopes a_inner a_tRule a_tFrom a_tTo a_before := by
      intro z hz1 hz2
      have hm := ys_up (RE := RE) (BE := BE) (y := WY' (gm_l G p)) (z := z) (i := i) (n := gm_r G p) (by omega) h6
      have kR : ∀ k t, bt (RE k) t = true → bt (upd RE (gm_r G p * 22 + i) (RE (gm_r G p * 22 + i) ||| WY' (gm_l G p)) k) t = true := by
        intro k t h
        rw [ba_up]; split
        · next e => subst e; rw [b_or, h]; rfl
        · exact h
      have kB : ∀ k t, bt (BE k) t = true → bt (upd BE (gm_r G p) (BE (gm_r G p) ||| z) k) t = true := by
        intro k t h
        rw [ba_up]; split
        · next e => subst e; rw [b_or, h]; rfl
        · exact h
      have s' : yt_s G w wn (upd RE (gm_r G p * 22 + i) (RE (gm_r G p * 22 + i) ||| WY' (gm_l G p))) (upd BE (gm_r G p) (BE (gm_r G p) ||| z)) := by
        refine ⟨fun n j t ⟨q1, q2, q3, q4⟩ => ?_, fun n hn hu j hj q => ?_⟩
        · rw [ba_up] at q4; split at q4
          · next e =>
            have e1 : n = gm_r G p := by omega
            have e2 : j = i := by omega
            subst e1 e2
            rw [b_or, Bool.or_eq_true] at q4
            rcases q4 with q4 | q4
            · exact hs.1 _ _ _ ⟨q1, q2, q3, q4⟩
            · exact dr_D_of hpn (dr_sg_m1 hs.1 ((hway t q3).mp q4))
          · exact hs.1 _ _ _ ⟨q1, q2, q3, q4⟩
        · rw [ba_up] at q; split at q
          · next e =>
            subst e
            rw [b_or, Bool.or_eq_true] at q
            rcases q with q | q
            · exact hs.2 _ hn hu j hj q
            · obtain ⟨e, hp'⟩ := hz1 j q
              subst e
              exact yt_ps hG hs hpn hp'
          · exact hs.2 n hn hu j hj q
      have c' := yt_cm kR kB hc
      have changed : ¬ ((RE (gm_r G p * 22 + i) ||| WY' (gm_l G p)) = RE (gm_r G p * 22 + i) ∧ (BE (gm_r G p) ||| z) = BE (gm_r G p)) → wY_settle_117 post J2 (wY_settle_10 post J2 (nI i) (d + 1)) (nI i) (nI p) (nI (gm_r G p)) (RE (gm_r G p * 22 + i) ||| WY' (gm_l G p)) (BE (gm_r G p) ||| z) f_np f_built f_some f_empty f_wn f_nt a_pRule a_pScope a_pLen a_sym a_role a_first a_follow a_kind a_val a_len a_word RE BE WY' a_known a_bad a_part a_scopes a_inner a_tRule a_tFrom a_tTo a_before := by
        intro hne
        unfold wY_settle_117 wY_settle_119
        rw [ba_22x, cI, cN]
        refine ⟨iI, nm_e ⟨iN, nm_e (nm_r (nI_1 p) (ih (p + 1) 1 _ _ WY' (by omega) s' c' (Or.inr ⟨rfl, ?_⟩)))⟩⟩
        have := hm.2 hne
        rcases hx with ⟨_, e1, e2, _⟩ | ⟨_, hl⟩
        · subst e1 e2; exact this
        · omega
      unfold wY_settle_86
      rw [ba_22x, cI, cN]
      refine ⟨iI, br_c (fun e1 => ⟨iN, br_c (fun e2 => ?_) (fun e2 => changed (fun y => e2 y.2))⟩) (fun e1 => changed (fun y => e1 y.1))⟩
      unfold wY_settle_119
      rw [ba_22x, cI, cN]
      refine ⟨iI, nm_e ⟨iN, nm_e (nm_r (nI_1 p) ?_)⟩⟩
      rw [ys_same e1, ys_same e2]
      refine ih (p + 1) x2 RE BE WY' (by omega) hs hc ?_
      rcases hx with ⟨x1, x2, x3, x4⟩ | hl
      · refine Or.inl ⟨x1, x2, x3, fun p' hp' => ?_⟩
        rcases Nat.lt_or_ge p' p with y | y
        · exact x4 p' y
        · have e : p' = p := by omega
          subst e
          subst x2 x3
          refine ⟨fun t ht q => ?_, fun q => ?_⟩
          · rw [← e1, b_or, Bool.or_eq_true]
            exact Or.inr ((hway t ht).mpr q)
          · rw [← e2]; exact hz2 q
      · exact Or.inr hl
    rcases hr with ⟨rfl, hr⟩ | ⟨rfl, hr⟩
    · refine br_f (by decide) ⟨iN, fin _ (fun t q => ?_) (fun _ => ?_)⟩
      · rcases Nat.lt_or_ge t 32 with y | y
        · rw [ba_one i (by omega) t y, decide_eq_true_iff] at q
          exact ⟨q, hr⟩
        · rw [b_big y] at q; exact absurd q (by decide)
      · exact (ba_oone (by omega)).mpr (Or.inr rfl)
    · have f0 := fin 0 (fun t q => by rw [b_0] at q; exact absurd q (by decide)) (fun q => absurd q hr)
      rw [show BE (gm_r G p) ||| 0 = BE (gm_r G p) from b_ext (fun i _ => by rw [b_or, b_0, Bool.or_false])] at f0
      exact br_t rfl ⟨iN, f0⟩
theorem ym_s2 (hG : gm_gd G) (hy : yg_ok G f_np a_pRule a_pScope a_pLen a_sym a_role) {w : Nat → Nat} {wn i : Nat} (hw : yt_w w wn f_wn a_word) (hi : i ≤ wn) (post : SY → Prop) (hP : ∀ RE BE WY, yt_s G w wn RE BE → yt_c G w wn i RE BE → post (f_np, f_built, f_some, f_empty, f_wn, f_nt, a_pRule, a_pScope, a_pLen, a_sym, a_role, a_first, a_follow, a_kind, a_val, a_len, a_word, RE, BE, WY, a_known, a_bad, a_part, a_scopes, a_inner, a_tRule, a_tFrom, a_tTo, a_before)) :
    ∀ μ RE BE WY, ys_u i RE BE < μ → yt_s G w wn RE BE → yt_c G w wn (i + 1) RE BE → wY_settle_2 post (nI i) (μ + 1) 1 f_np f_built f_some f_empty f_wn f_nt a_pRule a_pScope a_pLen a_sym a_role a_first a_follow a_kind a_val a_len a_word RE BE WY a_known a_bad a_part a_scopes a_inner a_tRule a_tFrom a_tTo a_before := by
  intro μ
  induction μ with
  | zero => intro RE BE WY h; omega
  | succ μ ih =>
    intro RE BE WY hm hs hc
    rw [wY_settle_2]
    dsimp only
    refine br_f (by decide) ⟨gm_n G + 1, ym_s10 hG hy hw hi (RE0 := RE) (BE0 := BE) post _ (fun WY' a b => ?_) (fun RE' BE' WY' a b c => ih RE' BE' WY' (by omega) a b) (gm_n G) 0 0 RE BE WY (by omega) hs hc (Or.inl ⟨rfl, rfl, rfl, fun p' h => by omega⟩)⟩
    rw [wY_settle_2]
    dsimp only
    exact br_t rfl (hP RE BE WY' a b)
theorem ym_settle (hG : gm_gd G) (hy : yg_ok G f_np a_pRule a_pScope a_pLen a_sym a_role) {w : Nat → Nat} {wn i : Nat} (hw : yt_w w wn f_wn a_word) (hi : i ≤ wn) (hs : yt_s G w wn a_reach a_beyond) (hc : yt_c G w wn (i + 1) a_reach a_beyond) (post : SY → Prop) (hP : ∀ RE BE WY, yt_s G w wn RE BE → yt_c G w wn i RE BE → post (f_np, f_built, f_some, f_empty, f_wn, f_nt, a_pRule, a_pScope, a_pLen, a_sym, a_role, a_first, a_follow, a_kind, a_val, a_len, a_word, RE, BE, WY, a_known, a_bad, a_part, a_scopes, a_inner, a_tRule, a_tFrom, a_tTo, a_before)) : wpY_settle post (f_np, f_built, f_some, f_empty, f_wn, f_nt, a_pRule, a_pScope, a_pLen, a_sym, a_role, a_first, a_follow, a_kind, a_val, a_len, a_word, a_reach, a_beyond, a_way, a_known, a_bad, a_part, a_scopes, a_inner, a_tRule, a_tFrom, a_tTo, a_before) (nI i) :=
  ⟨ys_u i a_reach a_beyond + 1 + 1, ym_s2 hG hy hw hi post hP (ys_u i a_reach a_beyond + 1) a_reach a_beyond a_way (by omega) hs hc⟩
theorem ym_t121 (hG : gm_gd G) (hy : yg_ok G f_np a_pRule a_pScope a_pLen a_sym a_role) {w : Nat → Nat} {wn : Nat} (hw : yt_w w wn f_wn a_word) (post : SY → Prop) (hP : ∀ RE BE WY, yt_s G w wn RE BE → yt_c G w wn 0 RE BE → post (f_np, f_built, f_some, f_empty, f_wn, f_nt, a_pRule, a_pScope, a_pLen, a_sym, a_role, a_first, a_follow, a_kind, a_val, a_len, a_word, RE, BE, WY, a_known, a_bad, a_part, a_scopes, a_inner, a_tRule, a_tFrom, a_tTo, a_before)) :
    ∀ a RE BE WY, a ≤ wn + 1 → yt_s G w wn RE BE → yt_c G w wn a RE BE → wY_take_121 post (a + 1) (nI a - 1) f_np f_built f_some f_empty f_wn f_nt a_pRule a_pScope a_pLen a_sym a_role a_first a_follow a_kind a_val a_len a_word RE BE WY a_known a_bad a_part a_scopes a_inner a_tRule a_tFrom a_tTo a_before := by
  intro a
  induction a with
  | zero =>
    intro RE BE WY _ hs hc
    rw [wY_take_121]
    dsimp only
    exact br_t (by decide) (hP RE BE WY hs hc)
  | succ a ih =>
    intro RE BE WY ha hs hc
    have := hw.2.1
    rw [wY_take_121]
    dsimp only
    rw [nI_pred]
    exact br_f (nI_pos (by omega)) (ym_settle hG hy hw (by omega) hs hc _ (fun RE' BE' WY' q1 q2 => nm_r ba_s (ih RE' BE' WY' (by omega) q1 q2)))
theorem ym_t89 {wn : Nat} (hw : f_wn = nI wn) (hn : wn ≤ 21) (post : SY → Prop) (hP : ∀ BE, (∀ n, n < 6 → ∀ t, t < 32 → (bt (BE n) t = true ↔ t = wn)) → ∃ f, wY_take_121 post f f_wn f_np f_built f_some f_empty f_wn f_nt a_pRule a_pScope a_pLen a_sym a_role a_first a_follow a_kind a_val a_len a_word a_reach BE a_way a_known a_bad a_part a_scopes a_inner a_tRule a_tFrom a_tTo a_before) :
    ∀ d k BE, k + d = 6 → (∀ n, n < k → ∀ t, t < 32 → (bt (BE n) t = true ↔ t = wn)) → wY_take_89 post f_np f_built f_some f_empty f_wn f_nt (d + 1) (nI k) a_pRule a_pScope a_pLen a_sym a_role a_first a_follow a_kind a_val a_len a_word a_reach BE a_way a_known a_bad a_part a_scopes a_inner a_tRule a_tFrom a_tTo a_before := by
  intro d
  induction d with
  | zero =>
    intro k BE hk hI
    rw [wY_take_89]
    dsimp only
    exact br_t (nI_le (a := 6) (by omega) (by omega)) (hP BE (fun n hn => hI n (by omega)))
  | succ d ih =>
    intro k BE hk hI
    have c1 : (nI k).toNatClampNeg = k := nI_clamp (by omega)
    rw [wY_take_89]
    dsimp only
    rw [c1]
    refine br_f (nI_ge (b := 6) (by omega) (by omega)) ⟨vp_in_nI (by omega) (by omega), nm_e (nm_r (nI_1 k) (ih (k + 1) _ (by omega) (fun n hn t ht => ?_)))⟩
    rcases Classical.em (n = k) with e | e
    · subst e
      rw [pk_us, hw, ba_one wn (by omega) t ht, decide_eq_true_iff]
    · rw [pk_un e]; exact hI n (by omega) t ht
theorem ym_t64 (post : SY → Prop) (hP : ∀ RE, (∀ x, x < 132 → RE x = 0) → ∃ f, wY_take_89 post f_np f_built f_some f_empty f_wn f_nt f 0 a_pRule a_pScope a_pLen a_sym a_role a_first a_follow a_kind a_val a_len a_word RE a_beyond a_way a_known a_bad a_part a_scopes a_inner a_tRule a_tFrom a_tTo a_before) :
    ∀ d k RE, k + d = 132 → (∀ x, x < k → RE x = 0) → wY_take_64 post f_np f_built f_some f_empty f_wn f_nt (d + 1) (nI k) a_pRule a_pScope a_pLen a_sym a_role a_first a_follow a_kind a_val a_len a_word RE a_beyond a_way a_known a_bad a_part a_scopes a_inner a_tRule a_tFrom a_tTo a_before := by
  intro d
  induction d with
  | zero =>
    intro k RE hk hI
    rw [wY_take_64]
    dsimp only
    exact br_t (nI_le (a := 132) (by omega) (by omega)) (hP RE (fun n hn => hI n (by omega)))
  | succ d ih =>
    intro k RE hk hI
    have c1 : (nI k).toNatClampNeg = k := nI_clamp (by omega)
    rw [wY_take_64]
    dsimp only
    rw [c1]
    refine br_f (nI_ge (b := 132) (by omega) (by omega)) ⟨vp_in_nI (by omega) (by omega), nm_e (nm_r (nI_1 k) (ih (k + 1) _ (by omega) (fun n hn => ?_)))⟩
    rcases Classical.em (n = k) with e | e
    · subst e; rw [pk_us]
    · rw [pk_un e]; exact hI n (by omega)
/-- from the word on -/
theorem ym_tw (hG : gm_gd G) (hy : yg_ok G f_np a_pRule a_pScope a_pLen a_sym a_role) {w : Nat → Nat} {wn : Nat} (hw : yt_w w wn f_wn a_word) (post : SY → Prop) (hP : ∀ RE BE WY, yt_s G w wn RE BE → yt_c G w wn 0 RE BE → post (f_np, f_built, f_some, f_empty, f_wn, f_nt, a_pRule, a_pScope, a_pLen, a_sym, a_role, a_first, a_follow, a_kind, a_val, a_len, a_word, RE, BE, WY, a_known, a_bad, a_part, a_scopes, a_inner, a_tRule, a_tFrom, a_tTo, a_before)) : ∃ f, wY_take_64 post f_np f_built f_some f_empty f_wn f_nt f 0 a_pRule a_pScope a_pLen a_sym a_role a_first a_follow a_kind a_val a_len a_word a_reach a_beyond a_way a_known a_bad a_part a_scopes a_inner a_tRule a_tFrom a_tTo a_before := by
  have hn := hw.2.1
  refine ⟨132 + 1, ym_t64 post (fun RE hRE => ⟨6 + 1, ym_t89 hw.1 hn post (fun BE hBE => ⟨wn + 1 + 1, ?_⟩) 6 0 a_beyond (by omega) (fun n h => by omega)⟩) 132 0 a_reach (by omega) (fun x h => by omega)⟩
  have q := ym_t121 hG hy hw post hP (wn + 1) RE BE a_way (by omega) ⟨fun n j t ⟨q1, q2, q3, q4⟩ => ?_, fun n hn6 hu j hj q => ?_⟩ ⟨fun n j t a b _ => by omega, fun n _ _ j a b _ => by omega⟩
  · rw [nI_pred, ← hw.1] at q
    exact q
  · rw [hRE _ (by omega), b_0] at q4
    exact absurd q4 (by decide)
  · have e := (hBE n hn6 j (by omega)).mp q
    subst e
    obtain ⟨k, hk⟩ := hG.2.1 n hn6 hu
    obtain ⟨w', t, a, b, c⟩ := dr_pr_of k n hk w j
    exact ⟨w', t, a, b, c⟩
theorem ym_t3 (hG : gm_gd G) (hy : yg_ok G f_np a_pRule a_pScope a_pLen a_sym a_role) {w : Nat → Nat} {f n wn : Nat} {x3 : Int32} (hf : f < 4) (hn : n ≤ 20) (hx : x3 = -1 ∧ wn = n ∨ wn = n + 1 ∧ x3 = nI (w n) ∧ w n < 10) (hk : ∀ x, x < n → a_kind (f * 20 + x) = nI (w x) ∧ w x < 10) (h4 : ∀ x, wn ≤ x → w x = 10) (post : SY → Prop) (hP : ∀ WO RE BE WY, yt_w w wn (nI wn) WO → yt_s G w wn RE BE → yt_c G w wn 0 RE BE → post (f_np, f_built, f_some, f_empty, nI wn, f_nt, a_pRule, a_pScope, a_pLen, a_sym, a_role, a_first, a_follow, a_kind, a_val, a_len, WO, RE, BE, WY, a_known, a_bad, a_part, a_scopes, a_inner, a_tRule, a_tFrom, a_tTo, a_before)) :
    ∀ d k WO, k + d = n → (∀ x, x < k → WO x = nI (w x)) → wY_take_3 post (nI f) (nI n) x3 f_np f_built f_some f_empty f_wn f_nt (d + 1) (nI k) a_pRule a_pScope a_pLen a_sym a_role a_first a_follow a_kind a_val a_len WO a_reach a_beyond a_way a_known a_bad a_part a_scopes a_inner a_tRule a_tFrom a_tTo a_before := by
  intro d
  induction d with
  | zero =>
    intro k WO hkn hI
    have e : k = n := by omega
    subst e
    have cK : (nI k).toNatClampNeg = k := nI_clamp (by omega)
    rw [wY_take_3]
    dsimp only
    refine br_t (nI_le (by omega) (by omega)) ?_
    rcases hx with ⟨rfl, rfl⟩ | ⟨rfl, rfl, h10⟩
    · have hw : yt_w w wn (nI wn) WO := ⟨rfl, by omega, fun x hx => ⟨hI x hx, (hk x hx).2⟩, h4⟩
      exact br_t (by decide) (ym_tw hG hy hw post (fun RE BE WY a b => hP WO RE BE WY hw a b))
    · have hw : yt_w w (k + 1) (nI (k + 1)) (upd WO k (nI (w k))) := ⟨rfl, by omega, fun x hx => by
        rcases Classical.em (x = k) with e | e
        · subst e; rw [pk_us]; exact ⟨rfl, h10⟩
        · rw [pk_un e]; exact ⟨hI x (by omega), (hk x (by omega)).2⟩, h4⟩
      refine br_f (nI_pos (by omega)) (nm_r (nI_1 k) ?_)
      rw [cK]
      refine ⟨vp_in_nI (by omega) (by omega), nm_r (congrArg _ (by rw [ba_nb _ (by omega), ba_vb (by omega)])) (ym_tw hG hy hw post (fun RE BE WY a b => hP _ RE BE WY hw a b))⟩
  | succ d ih =>
    intro k WO hkn hI
    obtain ⟨e1, e2⟩ := hk k (by omega)
    have cK : (nI k).toNatClampNeg = k := nI_clamp (by omega)
    have cI : (nI (f * 20 + k)).toNatClampNeg = f * 20 + k := nI_clamp (by omega)
    rw [wY_take_3]
    dsimp only
    rw [ba_20x, cI, cK, e1]
    refine br_f (nI_ge (by omega) (by omega)) ⟨vp_in_nI (by omega) (by omega), vp_in_nI (by omega) (by omega), nm_r (congrArg _ (ba_vb (by omega))) (nm_r (nI_1 k) (ih (k + 1) _ (by omega) (fun x hx => ?_)))⟩
    rcases Classical.em (x = k) with e | e
    · subst e; rw [pk_us]
    · rw [pk_un e]; exact hI x (by omega)
theorem ym_take (hG : gm_gd G) (hy : yg_ok G f_np a_pRule a_pScope a_pLen a_sym a_role) {w : Nat → Nat} {f n wn : Nat} {x3 : Int32} (hf : f < 4) (hn : n ≤ 20) (hx : x3 = -1 ∧ wn = n ∨ wn = n + 1 ∧ x3 = nI (w n) ∧ w n < 10) (hk : ∀ x, x < n → a_kind (f * 20 + x) = nI (w x) ∧ w x < 10) (h4 : ∀ x, wn ≤ x → w x = 10) (post : SY → Prop) (hP : ∀ WO RE BE WY, yt_w w wn (nI wn) WO → yt_s G w wn RE BE → yt_c G w wn 0 RE BE → post (f_np, f_built, f_some, f_empty, nI wn, f_nt, a_pRule, a_pScope, a_pLen, a_sym, a_role, a_first, a_follow, a_kind, a_val, a_len, WO, RE, BE, WY, a_known, a_bad, a_part, a_scopes, a_inner, a_tRule, a_tFrom, a_tTo, a_before)) : wpY_take post (f_np, f_built, f_some, f_empty, f_wn, f_nt, a_pRule, a_pScope, a_pLen, a_sym, a_role, a_first, a_follow, a_kind, a_val, a_len, a_word, a_reach, a_beyond, a_way, a_known, a_bad, a_part, a_scopes, a_inner, a_tRule, a_tFrom, a_tTo, a_before) (nI f) (nI n) x3 :=
  ⟨n + 1, ym_t3 hG hy hf hn hx hk h4 post hP n 0 a_word (by omega) (fun x h => by omega)⟩
end
end
section
/-! Y's tree: open -/
theorem dr_Sub {G : gm_G} {w : Nat → Nat} {wn : Nat} (h4 : ∀ x, wn ≤ x → w x = 10) {p c m i j : Nat} (hi : i ≤ wn) (h : dr_S G w p c m i j) : j ≤ wn := by
  rcases Nat.lt_or_ge wn j with z | z
  · have := dr_S10 h hi z
    rw [h4 wn (Nat.le_refl _)] at this
    omega
  · exact z
theorem yt_RD {G : gm_G} (hG : gm_ok G) {w : Nat → Nat} {wn : Nat} {RE BE : Nat → Int32} (h4 : ∀ x, wn ≤ x → w x = 10) (hn : wn ≤ 21) (hs : yt_s G w wn RE BE) (hc : yt_c G w wn 0 RE BE) {n j t : Nat} (hj : j ≤ wn) : yt_R RE wn n j t ↔ dr_D G w n j t :=
  ⟨hs.1 n j t, fun h => ⟨dr_D6 hG h, hj, by have := dr_Dub h4 hj h; omega, hc.1 n j t (Nat.zero_le _) hj h⟩⟩
theorem yt_RS {G : gm_G} (hG : gm_ok G) {w : Nat → Nat} {wn : Nat} {RE BE : Nat → Int32} (h4 : ∀ x, wn ≤ x → w x = 10) (hn : wn ≤ 21) (hs : yt_s G w wn RE BE) (hc : yt_c G w wn 0 RE BE) {p m i t : Nat} (hi : i ≤ wn) : dr_sg G (yt_R RE wn) w p m 0 i t ↔ dr_S G w p m 0 i t := by
  constructor
  · exact fun h => dr_sg_m1 hs.1 h
  · intro h
    have l := dr_Sub h4 hi h
    refine dr_sg_mo (lo := i) (hi := t) dr_D_le (fun n' a b l1 l2 z => ?_) (fun _ _ _ => rfl) m 0 i t (Nat.le_refl _) (Nat.le_refl _) h
    have l3 := dr_D_le _ _ _ z
    exact (yt_RD hG h4 hn hs hc (by omega)).mpr z
def yo_E (TR TF TT : Nat → Int32) (q n i j : Nat) : Prop := TR q = nI n ∧ TF q = nI i ∧ TT q = nI j
/-- what a write into the roles may do -/
def yo_p (G : gm_G) (w : Nat → Nat) (f p i j : Nat) (PA PA' : Nat → Int32) : Prop := ∀ y, PA' y = PA y ∨ ∃ x m, y = f * 20 + x ∧ tr_C G w p i j m x (x + 1) ∧ gm_s G p m < 10 ∧ PA' y = nI (gm_o G p m)
theorem yo_pr {G : gm_G} {w : Nat → Nat} {f p i j : Nat} {PA : Nat → Int32} : yo_p G w f p i j PA PA := fun _ => Or.inl rfl
theorem yo_pt {G : gm_G} {w : Nat → Nat} {f p i j : Nat} {PA PA' PA2 : Nat → Int32} (h : yo_p G w f p i j PA PA') (h' : yo_p G w f p i j PA' PA2) : yo_p G w f p i j PA PA2 := by
  intro y
  rcases h' y with z | z
  · rcases h y with q | ⟨x, m, q1, q2, q3, q4⟩
    · exact Or.inl (z.trans q)
    · exact Or.inr ⟨x, m, q1, q2, q3, z.trans q4⟩
  · exact Or.inr z
/-- the children and the terminals of (p, i, j) from symbol c on are down -/
def yo_c (G : gm_G) (w : Nat → Nat) (f p i j lv q0 nt c : Nat) (TR TF TT PA : Nat → Int32) : Prop :=
  (∀ q, q0 ≤ q → q < nt → ∃ m a b, yo_E TR TF TT q (gm_s G p m - 10) a b ∧ tr_C G w p i j m a b ∧ 10 ≤ gm_s G p m ∧ dr_L G w lv (gm_s G p m - 10) a b) ∧
  (∀ m a b, c ≤ m → tr_C G w p i j m a b → (10 ≤ gm_s G p m → ∃ q, q0 ≤ q ∧ q < nt ∧ yo_E TR TF TT q (gm_s G p m - 10) a b) ∧ (gm_s G p m < 10 → PA (f * 20 + a) = nI (gm_o G p m)))
section
variable {f_np f_built f_some f_empty f_wn f_nt : Int32} {a_pRule a_pScope a_pLen a_sym a_role a_first a_follow a_kind a_val a_len a_word a_reach a_beyond a_way a_known a_bad a_part a_scopes a_inner a_tRule a_tFrom a_tTo a_before : Nat → Int32} {G : gm_G}
theorem ym_below {nt n i j : Nat} (hn : n < 128) (hi : i < 128) (hj : j < 128) (hnt : nt < 400) (he : f_nt = nI nt) (post : SY → Prop) (hP : post (f_np, f_built, f_some, f_empty, f_wn, nI (nt + 1), a_pRule, a_pScope, a_pLen, a_sym, a_role, a_first, a_follow, a_kind, a_val, a_len, a_word, a_reach, a_beyond, a_way, a_known, a_bad, a_part, a_scopes, a_inner, upd a_tRule nt (nI n), upd a_tFrom nt (nI i), upd a_tTo nt (nI j), a_before)) : wpY_below post (f_np, f_built, f_some, f_empty, f_wn, f_nt, a_pRule, a_pScope, a_pLen, a_sym, a_role, a_first, a_follow, a_kind, a_val, a_len, a_word, a_reach, a_beyond, a_way, a_known, a_bad, a_part, a_scopes, a_inner, a_tRule, a_tFrom, a_tTo, a_before) (nI n) (nI i) (nI j) := by
  subst he
  have c1 : (nI nt).toNatClampNeg = nt := nI_clamp (by omega)
  have i1 : vp_in (nI nt) 400 := vp_in_nI hnt (by omega)
  unfold wpY_below
  dsimp only
  rw [c1]
  exact ⟨i1, nm_r (congrArg _ (by rw [ba_nb _ hn, ba_vb hn])) ⟨i1, nm_r (congrArg _ (by rw [ba_nb _ hi, ba_vb hi])) (nm_r (nI_1 nt) ⟨i1, nm_r (congrArg _ (by rw [ba_nb _ hj, ba_vb hj])) hP⟩)⟩⟩
theorem ym_o179 {p m k e nt : Nat} (hm : m < 5) (he : e ≤ 20) (hs : 10 ≤ gm_s G p m) (hs16 : gm_s G p m < 16) (hnt : nt < 400) (hen : f_nt = nI nt) (h1 : bt (a_way m) k = true) (h2 : bt (a_reach ((gm_s G p m - 10) * 22 + k)) e = true) (hu : ∀ x, k < x → x ≤ e → bt (a_way m) x = true → bt (a_reach ((gm_s G p m - 10) * 22 + x)) e = true → False) (post : SY → Prop) (J119 : _) (x1 x5 : Int32) (hJ : J119 (nI k) (nI m - 1) f_np f_built f_some f_empty f_wn (nI (nt + 1)) a_pRule a_pScope a_pLen a_sym a_role a_first a_follow a_kind a_val a_len a_word a_reach a_beyond a_way a_known a_bad a_part a_scopes a_inner (upd a_tRule nt (nI (gm_s G p m - 10))) (upd a_tFrom nt (nI k)) (upd a_tTo nt (nI e)) a_before) :
    ∀ d x, x = k + d → x ≤ e → wY_open_179 post J119 x1 x5 (nI e) (nI m) (nI (gm_s G p m)) f_np f_built f_some f_empty f_wn f_nt a_pRule a_pScope a_pLen a_sym a_role a_first a_follow a_kind a_val a_len a_word a_reach a_beyond a_way a_known a_bad a_part a_scopes a_inner a_tRule a_tFrom a_tTo a_before (d + 1) (nI x) := by
  have cM : (nI m).toNatClampNeg = m := nI_clamp (by omega)
  have iM : vp_in (nI m) 5 := vp_in_nI hm (by omega)
  intro d
  induction d with
  | zero =>
    intro x hx hxe
    have ex : x = k := by omega
    subst ex
    have cI : (nI ((gm_s G p m - 10) * 22 + x)).toNatClampNeg = (gm_s G p m - 10) * 22 + x := nI_clamp (by omega)
    rw [wY_open_179]
    dsimp only
    rw [cM, ba_m10 hs, ba_22x, cI]
    refine ⟨iM, br_f (by rw [ba_sh (by omega), h1]; decide) ⟨vp_in_nI (by omega) (by omega), br_f (by rw [ba_sh (by omega), h2]; decide) ?_⟩⟩
    exact ym_below (by omega) (by omega) (by omega) hnt hen _ (nm_r ba_s hJ)
  | succ d ih =>
    intro x hx hxe
    have cI : (nI ((gm_s G p m - 10) * 22 + x)).toNatClampNeg = (gm_s G p m - 10) * 22 + x := nI_clamp (by omega)
    have nx : wY_open_179 post J119 x1 x5 (nI e) (nI m) (nI (gm_s G p m)) f_np f_built f_some f_empty f_wn f_nt a_pRule a_pScope a_pLen a_sym a_role a_first a_follow a_kind a_val a_len a_word a_reach a_beyond a_way a_known a_bad a_part a_scopes a_inner a_tRule a_tFrom a_tTo a_before (d + 1) (nI (x - 1)) := ih (x - 1) (by omega) (by omega)
    rw [wY_open_179]
    dsimp only
    rw [cM, ba_m10 hs, ba_22x, cI]
    rcases Classical.em (bt (a_way m) x = true) with q | q
    · refine ⟨iM, br_f (by rw [ba_sh (by omega), q]; decide) ⟨vp_in_nI (by omega) (by omega), br_t ?_ (nm_r (ba_s1 (by omega)) nx)⟩⟩
      rw [ba_sh (by omega)]
      cases h : bt (a_reach ((gm_s G p m - 10) * 22 + x)) e
      · rfl
      · exact (hu x (by omega) hxe q h).elim
    · refine ⟨iM, br_t ?_ (nm_r (ba_s1 (by omega)) nx)⟩
      rw [ba_sh (by omega)]
      cases h : bt (a_way m) x
      · rfl
      · exact absurd h q
theorem ym_o119 (hG : gm_gd G) (hy : yg_ok G f_np a_pRule a_pScope a_pLen a_sym a_role) {w : Nat → Nat} {wn : Nat} {f p i j lv q0 : Nat} (hf : f < 4) (hwn : wn ≤ 20) (h4 : ∀ x, wn ≤ x → w x = 10) (hs : yt_s G w wn a_reach a_beyond) (hc : yt_c G w wn 0 a_reach a_beyond) (hp : p < gm_n G) (hj : j ≤ wn) (hW : gm_W G (w j) (gm_r G p)) (hway : ∀ m, m ≤ gm_l G p → ∀ t, t < 32 → (bt (a_way m) t = true ↔ dr_S G w p m 0 i t)) (hq : q0 + 3 * (lv + 1) ≤ 378) {PA0 TR0 TF0 TT0 : Nat → Int32} (post : SY → Prop) (hP : ∀ nt PA TR TF TT, q0 ≤ nt → nt ≤ q0 + 4 → yo_p G w f p i j PA0 PA → (∀ q, q < q0 → TR q = TR0 q ∧ TF q = TF0 q ∧ TT q = TT0 q) → yo_c G w f p i j lv q0 nt 0 TR TF TT PA → post (f_np, f_built, f_some, f_empty, f_wn, nI nt, a_pRule, a_pScope, a_pLen, a_sym, a_role, a_first, a_follow, a_kind, a_val, a_len, a_word, a_reach, a_beyond, a_way, a_known, a_bad, PA, a_scopes, a_inner, TR, TF, TT, a_before)) :
    ∀ c e nt PA TR TF TT, c ≤ gm_l G p → q0 ≤ nt → nt + c ≤ q0 + gm_l G p → dr_sg G (dr_L G w lv) w p c 0 i e → dr_S G w p (gm_l G p - c) c e j → yo_p G w f p i j PA0 PA → (∀ q, q < q0 → TR q = TR0 q ∧ TF q = TF0 q ∧ TT q = TT0 q) → yo_c G w f p i j lv q0 nt c TR TF TT PA → wY_open_119 post (nI f) (nI p) (c + 1) (nI e) (nI c - 1) f_np f_built f_some f_empty f_wn (nI nt) a_pRule a_pScope a_pLen a_sym a_role a_first a_follow a_kind a_val a_len a_word a_reach a_beyond a_way a_known a_bad PA a_scopes a_inner TR TF TT a_before := by
  obtain ⟨h14, h6, hl, hs16⟩ := gm_p0 hG.1 hp
  obtain ⟨_, _, e3, e4⟩ := hy.2 p hp
  intro c
  induction c with
  | zero =>
    intro e nt PA TR TF TT hcl hn1 hn2 H1 H2 hpa hst hcc
    rw [wY_open_119]
    dsimp only
    exact br_t (by decide) (hP nt PA TR TF TT hn1 (by omega) hpa hst hcc)
  | succ c ih =>
    intro e nt PA TR TF TT hcl hn1 hn2 H1 H2 hpa hst hcc
    have h16 := hs16 c (by omega)
    have le := dr_S_le H2
    have c2 : (nI (p * 4 + c)).toNatClampNeg = p * 4 + c := nI_clamp (by omega)
    have i2 : vp_in (nI (p * 4 + c)) 56 := vp_in_nI (by omega) (by omega)
    obtain ⟨k, K1, K2⟩ := dr_ns H1
    have lk := dr_sy_le (dr_L_le lv) K2
    have li := dr_sg_le (dr_L_le lv) _ _ _ _ K1
    have K1' : dr_S G w p c 0 i k := dr_sg_m1 (fun _ _ _ z => ⟨lv, z⟩) K1
    have K2' : dr_sy (dr_D G w) w (gm_s G p c) k e := K2.elim Or.inl (fun z => Or.inr ⟨z.1, lv, z.2⟩)
    have C0 : tr_C G w p i j c k e := ⟨by omega, K1', K2', H2⟩
    have S0 := tr_C0 C0
    rw [wY_open_119]
    dsimp only
    rw [nI_pred, ba_4x, c2, (e4 c (by omega)).1]
    refine br_f (nI_pos (by omega)) ⟨i2, nm_e ?_⟩
    rcases Nat.lt_or_ge (gm_s G p c) 10 with z | z
    · have ek : e = k + 1 := by
        rcases K2 with ⟨_, _, x⟩ | ⟨x, _⟩
        · exact x
        · omega
      subst ek
      have cI : (nI (f * 20 + k)).toNatClampNeg = f * 20 + k := nI_clamp (by omega)
      refine br_f (nI_ge (b := 10) z (by omega)) (nm_r (pk_m1 k) ?_)
      rw [ba_20x, cI, (e4 c (by omega)).2 z]
      have hro := ((hG.1.2.1 p hp).2.2.2 c (by omega)).2 z
      refine ⟨i2, vp_in_nI (by omega) (by omega), nm_r (congrArg _ (ba_vb (by omega))) (nm_r ba_s ?_)⟩
      refine ih k nt _ TR TF TT (by omega) hn1 (by omega) K1 S0 (yo_pt hpa (fun y => ?_)) hst ⟨hcc.1, fun m a b hm hC => ?_⟩
      · rcases Classical.em (y = f * 20 + k) with q | q
        · subst q
          exact Or.inr ⟨k, c, rfl, C0, z, pk_us⟩
        · exact Or.inl (pk_un q)
      · rcases Nat.lt_or_ge c m with y | y
        · obtain ⟨r1, r2⟩ := hcc.2 m a b y hC
          refine ⟨r1, fun t => ?_⟩
          have hne : a ≠ k := by
            have := tr_Cm hG (Or.inl hp) hW C0 hC y
            omega
          rw [pk_un (by omega)]
          exact r2 t
        · have em : m = c := by omega
          subst em
          obtain ⟨e1, e2⟩ := tr_Cs hG (Or.inl hp) hW hC C0
          subst e1
          refine ⟨fun t => by omega, fun _ => pk_us⟩
    · have K3 : dr_L G w lv (gm_s G p c - 10) k e := by
        rcases K2 with ⟨x, _⟩ | ⟨_, x⟩
        · omega
        · exact x
      refine br_t (nI_le (a := 10) z (by omega)) ⟨e - k + 1, ?_⟩
      refine ym_o179 (k := k) (by omega) (by omega) z h16 (by omega) rfl ((hway c (by omega) k (by omega)).mpr K1') ((yt_RD hG.1 h4 (by omega) hs hc (by omega)).mpr ⟨lv, K3⟩).2.2.2 (fun x x1 x2 x3 x4 => ?_) post _ (nI f) (nI p) ?_ (e - k) e (by omega) (Nat.le_refl _)
      · have hx3 := (hway c (by omega) x (by omega)).mp x3
        have hx4 : dr_D G w (gm_s G p c - 10) x e := hs.1 _ _ _ ⟨by omega, by omega, by omega, x4⟩
        have C1 : tr_C G w p i j c x e := ⟨by omega, hx3, Or.inr ⟨z, hx4⟩, H2⟩
        have := (tr_Cs hG (Or.inl hp) hW C0 C1).1
        omega
      · refine ih k (nt + 1) PA _ _ _ (by omega) (by omega) (by omega) K1 S0 hpa (fun q hq => ?_) ⟨fun q q1 q2 => ?_, fun m a b hm hC => ?_⟩
        · rw [pk_un (by omega), pk_un (by omega), pk_un (by omega)]
          exact hst q hq
        · rcases Classical.em (q = nt) with y | y
          · subst y
            exact ⟨c, k, e, ⟨pk_us, pk_us, pk_us⟩, C0, z, K3⟩
          · obtain ⟨m, a, b, r1, r2⟩ := hcc.1 q q1 (by omega)
            exact ⟨m, a, b, ⟨(pk_un y).trans r1.1, (pk_un y).trans r1.2.1, (pk_un y).trans r1.2.2⟩, r2⟩
        · rcases Nat.lt_or_ge c m with y | y
          · obtain ⟨r1, r2⟩ := hcc.2 m a b y hC
            refine ⟨fun t => ?_, r2⟩
            obtain ⟨q, s1, s2, s3⟩ := r1 t
            have ne : q ≠ nt := by omega
            exact ⟨q, s1, by omega, (pk_un ne).trans s3.1, (pk_un ne).trans s3.2.1, (pk_un ne).trans s3.2.2⟩
          · have em : m = c := by omega
            subst em
            obtain ⟨e1, e2⟩ := tr_Cs hG (Or.inl hp) hW hC C0
            subst e1 e2
            exact ⟨fun _ => ⟨nt, hn1, by omega, pk_us, pk_us, pk_us⟩, fun t => by omega⟩
/-- the scopes: a bit for the node if it is marked and not empty -/
def yo_s (f k i j : Nat) (SP SP' : Nat → Int32) : Prop := (k = 1 ∧ i < j → SP' = upd SP (f * 20 + i) (SP (f * 20 + i) ||| ((1 : Int32) <<< (nI (j - 1) &&& 31)))) ∧ (¬ (k = 1 ∧ i < j) → SP' = SP)
theorem ym_o6 (hG : gm_gd G) (hy : yg_ok G f_np a_pRule a_pScope a_pLen a_sym a_role) {w : Nat → Nat} {wn : Nat} {f p i j lv q0 : Nat} (hf : f < 4) (hwn : wn ≤ 20) (hw : yt_w w wn f_wn a_word) (hs : yt_s G w wn a_reach a_beyond) (hc : yt_c G w wn 0 a_reach a_beyond) (hp : p < gm_n G) (hij : i ≤ j) (hj : j ≤ wn) (hW : gm_W G (w j) (gm_r G p)) (hL : dr_sg G (dr_L G w lv) w p (gm_l G p) 0 i j) (hq : q0 + 3 * (lv + 1) ≤ 378) (hen : f_nt = nI q0) (post : SY → Prop) (hP : ∀ nt WY PA SP TR TF TT, q0 ≤ nt → nt ≤ q0 + 4 → yo_p G w f p i j a_part PA → yo_s f (gm_k G p) i j a_scopes SP → (∀ q, q < q0 → TR q = a_tRule q ∧ TF q = a_tFrom q ∧ TT q = a_tTo q) → yo_c G w f p i j lv q0 nt 0 TR TF TT PA → post (f_np, f_built, f_some, f_empty, f_wn, nI nt, a_pRule, a_pScope, a_pLen, a_sym, a_role, a_first, a_follow, a_kind, a_val, a_len, a_word, a_reach, a_beyond, WY, a_known, a_bad, PA, SP, a_inner, TR, TF, TT, a_before)) :
    ∀ d q WY, q + d = p → wY_open_6 post (nI f) (nI (gm_r G p)) (nI i) (nI j) (d + 2) (nI q) 0 f_np f_built f_some f_empty f_wn f_nt a_pRule a_pScope a_pLen a_sym a_role a_first a_follow a_kind a_val a_len a_word a_reach a_beyond WY a_known a_bad a_part a_scopes a_inner a_tRule a_tFrom a_tTo a_before := by
  obtain ⟨h14, h6, hl, hs16⟩ := gm_p0 hG.1 hp
  have hLS : dr_S G w p (gm_l G p) 0 i j := dr_sg_m1 (fun _ _ _ z => ⟨lv, z⟩) hL
  have hk1 := (hG.1.2.1 p hp).2.2.1
  have h4 := hw.2.2.2
  -- a production that also derives the span is p
  have un : ∀ q, q < gm_n G → gm_r G q = gm_r G p → dr_S G w q (gm_l G q) 0 i j → q = p := by
    intro q hq hr h
    have P1 := ll_P hG.1 h (by rw [hr]; exact hW)
    have P2 := ll_P hG.1 hLS hW
    exact ll_un hG hq hp hr P1.2 P1.1 P2.1
  intro d
  induction d with
  | zero =>
    intro q WY hqp
    have e : q = p := by omega
    subst e
    have c1 : (nI q).toNatClampNeg = q := nI_clamp (by omega)
    have i1 : vp_in (nI q) 14 := vp_in_nI h14 (by omega)
    have cL : (nI (gm_l G q)).toNatClampNeg = gm_l G q := nI_clamp (by omega)
    have iL : vp_in (nI (gm_l G q)) 5 := vp_in_nI (by omega) (by omega)
    rw [wY_open_6]
    dsimp only
    rw [c1, (hy.2 q hp).1]
    refine br_t rfl ⟨i1, br_t rfl (ym_walk hG.1 hy hw (yt_sb h4 hs) hp (by omega) _ (fun r WY' hr hwy => ?_))⟩
    dsimp only
    rw [(hy.2 q hp).2.2.1, cL]
    have hway : ∀ m, m ≤ gm_l G q → ∀ t, t < 32 → (bt (WY' m) t = true ↔ dr_S G w q m 0 i t) := fun m hm t ht => (hwy m hm t ht).trans (yt_RS hG.1 h4 (by omega) hs hc (by omega))
    refine ⟨i1, iL, br_f (by rw [ba_sh (by omega), (hway _ (Nat.le_refl _) j (by omega)).mpr hLS]; decide) ?_⟩
    unfold wY_open_55 wY_open_57
    refine br_f (by decide) ?_
    rw [wY_open_6]
    dsimp only
    rw [c1, (hy.2 q hp).2.1]
    -- from the scope on
    have fin : ∀ SP, yo_s f (gm_k G q) i j a_scopes SP → wY_open_104 post (nI f) (nI j) (nI q) f_np f_built f_some f_empty f_wn f_nt a_pRule a_pScope a_pLen a_sym a_role a_first a_follow a_kind a_val a_len a_word a_reach a_beyond WY' a_known a_bad a_part SP a_inner a_tRule a_tFrom a_tTo a_before := by
      intro SP hSP
      unfold wY_open_104
      rw [c1, (hy.2 q hp).2.2.1]
      refine ⟨i1, nm_e ⟨gm_l G q + 1, ?_⟩⟩
      subst hen
      refine ym_o119 hG hy (PA0 := a_part) (TR0 := a_tRule) (TF0 := a_tFrom) (TT0 := a_tTo) hf hwn h4 hs hc hp hj hW hway hq post (fun nt PA TR TF TT a1 a2 a3 a4 a5 => hP nt WY' PA SP TR TF TT a1 a2 a3 hSP a4 a5) (gm_l G q) j q0 a_part a_tRule a_tFrom a_tTo (Nat.le_refl _) (Nat.le_refl _) (by omega) hL (by rw [Nat.sub_self]; exact rfl) yo_pr (fun _ _ => ⟨rfl, rfl, rfl⟩) ⟨fun q q1 q2 => by omega, fun m a b hm hC => by have := hC.1; omega⟩
    refine br_f (by decide) ⟨i1, pk_eq (gm_k G q) 0 (fun z => fin _ ⟨fun y => by omega, fun _ => rfl⟩) (fun z => pk_le j i (fun y => fin _ ⟨fun u => by omega, fun _ => rfl⟩) (fun y => ?_))⟩
    have cI : (nI (f * 20 + i)).toNatClampNeg = f * 20 + i := nI_clamp (by omega)
    have iI : vp_in (nI (f * 20 + i)) 80 := vp_in_nI (by omega) (by omega)
    rw [ba_20x, cI, ba_m1 (by omega)]
    exact ⟨iI, iI, nm_e (fin _ ⟨fun _ => rfl, fun u => absurd ⟨by omega, y⟩ u⟩)⟩
  | succ d ih =>
    intro q WY hqp
    have hqn : q < gm_n G := by omega
    obtain ⟨_, r6, rl, _⟩ := gm_p0 hG.1 hqn
    have c1 : (nI q).toNatClampNeg = q := nI_clamp (by omega)
    have i1 : vp_in (nI q) 14 := vp_in_nI (by omega) (by omega)
    have cL : (nI (gm_l G q)).toNatClampNeg = gm_l G q := nI_clamp (by omega)
    have iL : vp_in (nI (gm_l G q)) 5 := vp_in_nI (by omega) (by omega)
    rw [wY_open_6]
    dsimp only
    rw [c1, (hy.2 q hqn).1]
    refine br_t rfl ⟨i1, pk_eq (gm_r G q) (gm_r G p) (fun e => ?_) (fun e => ?_)⟩
    · refine ym_walk hG.1 hy hw (yt_sb h4 hs) hqn (by omega) _ (fun r WY' hr hwy => ?_)
      dsimp only
      rw [(hy.2 q hqn).2.2.1, cL]
      refine ⟨i1, iL, br_t ?_ ?_⟩
      · rw [ba_sh (by omega)]
        cases h : bt (WY' (gm_l G q)) j
        · rfl
        · have := un q hqn e ((yt_RS hG.1 h4 (by omega) hs hc (by omega)).mp ((hwy _ (Nat.le_refl _) j (by omega)).mp h))
          omega
      · unfold wY_open_55 wY_open_57
        exact br_t rfl (nm_r (nI_1 q) (ih (q + 1) WY' (by omega)))
    · unfold wY_open_57
      exact br_t rfl (nm_r (nI_1 q) (ih (q + 1) WY (by omega)))
theorem ym_open (hG : gm_gd G) (hy : yg_ok G f_np a_pRule a_pScope a_pLen a_sym a_role) {w : Nat → Nat} {wn : Nat} {f p i j lv q0 : Nat} (hf : f < 4) (hwn : wn ≤ 20) (hw : yt_w w wn f_wn a_word) (hs : yt_s G w wn a_reach a_beyond) (hc : yt_c G w wn 0 a_reach a_beyond) (hp : p < gm_n G) (hij : i ≤ j) (hj : j ≤ wn) (hW : gm_W G (w j) (gm_r G p)) (hL : dr_sg G (dr_L G w lv) w p (gm_l G p) 0 i j) (hq : q0 + 3 * (lv + 1) ≤ 378) (hen : f_nt = nI q0) (post : SY → Prop) (hP : ∀ nt WY PA SP TR TF TT, q0 ≤ nt → nt ≤ q0 + 4 → yo_p G w f p i j a_part PA → yo_s f (gm_k G p) i j a_scopes SP → (∀ q, q < q0 → TR q = a_tRule q ∧ TF q = a_tFrom q ∧ TT q = a_tTo q) → yo_c G w f p i j lv q0 nt 0 TR TF TT PA → post (f_np, f_built, f_some, f_empty, f_wn, nI nt, a_pRule, a_pScope, a_pLen, a_sym, a_role, a_first, a_follow, a_kind, a_val, a_len, a_word, a_reach, a_beyond, WY, a_known, a_bad, PA, SP, a_inner, TR, TF, TT, a_before)) : wpY_open post (f_np, f_built, f_some, f_empty, f_wn, f_nt, a_pRule, a_pScope, a_pLen, a_sym, a_role, a_first, a_follow, a_kind, a_val, a_len, a_word, a_reach, a_beyond, a_way, a_known, a_bad, a_part, a_scopes, a_inner, a_tRule, a_tFrom, a_tTo, a_before) (nI f) (nI (gm_r G p)) (nI i) (nI j) :=
  ⟨p + 2, ym_o6 hG hy hf hwn hw hs hc hp hij hj hW hL hq hen post hP p 0 a_way (by omega)⟩
end
end
section
/-! Y's tree: unfold -/
theorem tr_sym {G : gm_G} {w : Nat → Nat} {R : Nat → Nat → Nat → Prop} (hR : ∀ n i j, R n i j → dr_D G w n i j) {p i j x : Nat} (hx : x < j) : ∀ c m a, m + c = gm_l G p → dr_S G w p m 0 i a → a ≤ x → dr_sg G R w p c m a j → ∃ m' a' b', tr_C G w p i j m' a' b' ∧ dr_sy R w (gm_s G p m') a' b' ∧ a' ≤ x ∧ x < b' := by
  have hle : ∀ n i j, R n i j → i ≤ j := fun n i j h => dr_D_le _ _ _ (hR n i j h)
  intro c
  induction c with
  | zero => intro m a _ _ h1 h2; have h2 : a = j := h2; omega
  | succ c ih =>
    intro m a hm h0 h1 ⟨k, y, z⟩
    have y' : dr_sy (dr_D G w) w (gm_s G p m) a k := y.elim Or.inl (fun q => Or.inr ⟨q.1, hR _ _ _ q.2⟩)
    rcases Nat.lt_or_ge x k with q | q
    · refine ⟨m, a, k, ⟨by omega, h0, y', ?_⟩, y, h1, q⟩
      rw [show gm_l G p - (m + 1) = c from by omega]
      exact dr_sg_m1 hR z
    · exact ih (m + 1) k (by omega) (dr_sn h0 y') q z
theorem tr_ex {G : gm_G} {w : Nat → Nat} {len : Nat} : ∀ a k p i j x, tr_N G w len k p i j → dr_sg G (dr_L G w a) w p (gm_l G p) 0 i j → i ≤ x → x < j → ∃ k' p' m', tr_f G w len k' x p' m' := by
  intro a
  induction a with
  | zero =>
    intro k p i j x hN h h1 h2
    obtain ⟨m, a', b', hC, hy, q1, q2⟩ := tr_sym (fun _ _ _ z => ⟨0, z⟩) h2 (gm_l G p) 0 i (by omega) rfl h1 h
    rcases hy with ⟨y1, y2, y3⟩ | ⟨_, y⟩
    · subst y3
      have e : a' = x := by omega
      subst e
      exact ⟨k, p, m, i, j, hN, hC, y1⟩
    · exact y.elim
  | succ a ih =>
    intro k p i j x hN h h1 h2
    obtain ⟨m, a', b', hC, hy, q1, q2⟩ := tr_sym (fun _ _ _ z => ⟨a + 1, z⟩) h2 (gm_l G p) 0 i (by omega) rfl h1 h
    rcases hy with ⟨y1, y2, y3⟩ | ⟨y1, p', y2, y3, y4⟩
    · subst y3
      have e : a' = x := by omega
      subst e
      exact ⟨k, p, m, i, j, hN, hC, y1⟩
    · exact ih (k + 1) p' a' b' x ⟨p, i, j, m, hN, hC, by omega, y2, dr_sg_m1 (fun _ _ _ z => ⟨a, z⟩) y4⟩ y4 q1 q2
theorem tr_r {G : gm_G} (hG : gm_ok G) {w : Nat → Nat} {len : Nat} (hd : dr_D G w 0 0 len) : tr_N G w len 0 14 0 len := by
  refine ⟨rfl, rfl, rfl, dr_1 (Or.inr ⟨by rw [hG.2.2.2.2.1]; omega, ?_⟩)⟩
  rw [hG.2.2.2.2.1]
  exact hd
theorem tr_all {G : gm_G} (hG : gm_ok G) {w : Nat → Nat} {len x : Nat} (hd : dr_D G w 0 0 len) (hx : x < len) : ∃ k p m, tr_f G w len k x p m := by
  have h := tr_r hG hd
  have h2 := h.2.2.2
  obtain ⟨a, ha⟩ := dr_S_lv _ _ _ _ h2
  exact tr_ex a 0 14 0 len x h (by rw [hG.2.2.2.1]; exact ha) (Nat.zero_le _) hx
/-- a node that waits at place q of the stack, with its level -/
def yu_p (G : gm_G) (w : Nat → Nat) (len q a : Nat) (TR TF TT : Nat → Int32) : Prop := ∃ p i j k, yo_E TR TF TT q (gm_r G p) i j ∧ p < gm_n G ∧ tr_N G w len k p i j ∧ dr_sg G (dr_L G w a) w p (gm_l G p) 0 i j ∧ q + 3 * (a + 1) ≤ 378
def yu_w (nt : Nat) (TR TF TT : Nat → Int32) (n i j : Nat) : Prop := ∃ q, q < nt ∧ yo_E TR TF TT q n i j
def yu_d (G : gm_G) (w : Nat → Nat) (f nt : Nat) (TR TF TT PA SP : Nat → Int32) (Dn : Nat → Nat → Nat → Prop) (p i j : Nat) : Prop :=
  (∀ p' m a b, tr_C G w p i j m a b → gm_s G p m = 10 + gm_r G p' → p' < gm_n G → dr_S G w p' (gm_l G p') 0 a b → Dn p' a b ∨ yu_w nt TR TF TT (gm_r G p') a b) ∧ (∀ m x, tr_C G w p i j m x (x + 1) → gm_s G p m < 10 → PA (f * 20 + x) = nI (gm_o G p m)) ∧ (gm_k G p = 1 → i < j → bt (SP (f * 20 + i)) (j - 1) = true)
def yu_I (G : gm_G) (w : Nat → Nat) (len f nt : Nat) (TR TF TT PA SP : Nat → Int32) (Dn : Nat → Nat → Nat → Prop) : Prop :=
  (∀ p i j, tr_N G w len 1 p i j → Dn p i j ∨ yu_w nt TR TF TT (gm_r G p) i j) ∧ (∀ p i j k, Dn p i j → tr_N G w len k p i j → yu_d G w f nt TR TF TT PA SP Dn p i j) ∧ (∀ i t, i < 20 → t < 32 → bt (SP (f * 20 + i)) t = true → sc_S G w len i (t + 1))
theorem yu_st {G : gm_G} (hG : gm_gd G) {w : Nat → Nat} {len f q0 nt p i j k lv : Nat} (hwl : w len = 10) (hn : len ≤ 20) {TR TF TT PA SP TR' TF' TT' PA' SP' : Nat → Int32} {Dn : Nat → Nat → Nat → Prop} (hp : p < gm_n G) (hN : tr_N G w len k p i j) (hE : yo_E TR TF TT q0 (gm_r G p) i j) (hI : yu_I G w len f (q0 + 1) TR TF TT PA SP Dn) (hnt : q0 ≤ nt) (hpa : yo_p G w f p i j PA PA') (hsp : yo_s f (gm_k G p) i j SP SP') (hst : ∀ q, q < q0 → TR' q = TR q ∧ TF' q = TF q ∧ TT' q = TT q) (hc : yo_c G w f p i j lv q0 nt 0 TR' TF' TT' PA') : yu_I G w len f nt TR' TF' TT' PA' SP' (fun p' a b => Dn p' a b ∨ (p' = p ∧ a = i ∧ b = j)) := by
  obtain ⟨v, hS, hW, hij, hjl⟩ := tr_b hG hwl k p i j hN
  obtain ⟨i1, i2, i3⟩ := hI
  -- a waiting node stays, or is the one that was opened
  have keep : ∀ p' a b, p' < gm_n G → dr_S G w p' (gm_l G p') 0 a b → yu_w (q0 + 1) TR TF TT (gm_r G p') a b → a ≤ 20 → b ≤ 20 → (p' = p ∧ a = i ∧ b = j) ∨ yu_w nt TR' TF' TT' (gm_r G p') a b := by
    intro p' a b hp' hS' ⟨q, q1, q2, q3, q4⟩ ha hb
    rcases Nat.lt_or_ge q q0 with z | z
    · obtain ⟨s1, s2, s3⟩ := hst q z
      exact Or.inr ⟨q, by omega, s1.trans q2, s2.trans q3, s3.trans q4⟩
    · have e : q = q0 := by omega
      subst e
      have r6 := (hG.1.2.1 p hp).1
      have r6' := (hG.1.2.1 p' hp').1
      have e1 : gm_r G p' = gm_r G p := (nI_eq (by omega) (by omega)).mp (q2.symm.trans hE.1)
      have e2 : a = i := (nI_eq (by omega) (by omega)).mp (q3.symm.trans hE.2.1)
      have e3 : b = j := (nI_eq (by omega) (by omega)).mp (q4.symm.trans hE.2.2)
      subst e2 e3
      have P1 := ll_P hG.1 hS' (by rw [e1]; exact hW)
      have P2 := ll_P hG.1 hS hW
      exact Or.inl ⟨ll_un hG hp' hp e1 P1.2 P1.1 P2.1, rfl, rfl⟩
  refine ⟨fun p' a b hN' => ?_, fun p' a b k' hD hN' => ?_, fun x t hx ht h => ?_⟩
  · rcases i1 p' a b hN' with z | z
    · exact Or.inl (Or.inl z)
    · obtain ⟨_, hS', _, l1, l2⟩ := tr_b hG hwl 1 p' a b hN'
      have hp' : p' < gm_n G := by
        obtain ⟨_, _, _, _, _, _, _, h, _⟩ := hN'
        exact h
      rcases keep p' a b hp' hS' z (by omega) (by omega) with y | y
      · exact Or.inl (Or.inr y)
      · exact Or.inr y
  · obtain ⟨_, _, hW', m1, m2⟩ := tr_b hG hwl k' p' a b hN'
    rcases Classical.em (p' = p ∧ a = i ∧ b = j) with ⟨e1, e2, e3⟩ | hne
    · subst e1 e2 e3
      refine ⟨fun p2 m x y hC hs hp2 hS2 => ?_, fun m x hC hs => ((hc.2 m x (x + 1) (Nat.zero_le _) hC).2 hs), fun hk hlt => ?_⟩
      · obtain ⟨q, q1, q2, q3⟩ := (hc.2 m x y (Nat.zero_le _) hC).1 (by omega)
        rw [show gm_s G p' m - 10 = gm_r G p2 from by omega] at q3
        exact Or.inr ⟨q, q2, q3⟩
      · rw [hsp.1 ⟨hk, hlt⟩, pk_us]
        exact (ba_oone (by omega)).mpr (Or.inr rfl)
    · have hD0 : Dn p' a b := hD.elim id (fun z => absurd z hne)
      obtain ⟨d1, d2, d3⟩ := i2 p' a b k' hD0 hN'
      refine ⟨fun p2 m x y hC hs hp2 hS2 => ?_, fun m x hC hs => ?_, fun hk hlt => ?_⟩
      · have l := tr_Cle hC
        rcases d1 p2 m x y hC hs hp2 hS2 with z | z
        · exact Or.inl (Or.inl z)
        · rcases keep p2 x y hp2 hS2 z (by omega) (by omega) with u | u
          · exact Or.inl (Or.inr u)
          · exact Or.inr u
      · rcases hpa (f * 20 + x) with z | ⟨x', m', z1, z2, z3, z4⟩
        · rw [z]; exact d2 m x hC hs
        · have ex : x' = x := by omega
          subst ex
          have f1 : tr_f G w len k' x' p' m := ⟨a, b, hN', hC, hs⟩
          have f2 : tr_f G w len k x' p m' := ⟨i, j, hN, z2, z3⟩
          obtain ⟨_, e1, e2⟩ := tr_fu hG hwl f1 f2
          subst e1 e2
          exact z4
      · have := d3 hk hlt
        rcases Classical.em (gm_k G p = 1 ∧ i < j) with z | z
        · rw [hsp.1 z, ba_up]
          split
          · next e => rw [← e, b_or, this]; rfl
          · exact this
        · rw [hsp.2 z]; exact this
  · rcases Classical.em (gm_k G p = 1 ∧ i < j) with z | z
    · rw [hsp.1 z, ba_up] at h
      split at h
      · next e =>
        have ex : x = i := by omega
        subst ex
        rcases (ba_oone (by omega)).mp h with h | h
        · exact i3 x t hx ht h
        · subst h
          rw [show j - 1 + 1 = j from by omega]
          exact ⟨z.2, k, p, hN, z.1⟩
      · exact i3 x t hx ht h
    · rw [hsp.2 z] at h
      exact i3 x t hx ht h
theorem yu_end {G : gm_G} (hG : gm_gd G) {w : Nat → Nat} {len f : Nat} (hwl : w len = 10) (hn : len ≤ 20) (hd : dr_D G w 0 0 len) {TR TF TT PA SP : Nat → Int32} {Dn : Nat → Nat → Nat → Prop} (hI : yu_I G w len f 0 TR TF TT PA SP Dn) : (∀ x, x < len → PA (f * 20 + x) = nI (px_r G w len x)) ∧ ∀ i, i < 20 → gm_ms (SP (f * 20 + i)) (fun t => sc_S G w len i (t + 1)) := by
  have all : ∀ k p i j, tr_N G w len (k + 1) p i j → Dn p i j := by
    intro k
    induction k with
    | zero =>
      intro p i j h
      rcases hI.1 p i j h with z | ⟨q, z, _⟩
      · exact z
      · omega
    | succ k ih =>
      intro p i j ⟨P, I, J, m, a, b, c, d, e⟩
      rcases (hI.2.1 P I J (k + 1) (ih P I J a) a).1 p m i j b c d e with z | ⟨q, z, _⟩
      · exact z
      · omega
  refine ⟨fun x hx => ?_, fun i hi t ht => ⟨fun h => hI.2.2 i t hi ht h, fun ⟨h0, k, p, h1, h2⟩ => ?_⟩⟩
  · obtain ⟨k, p, m, hf⟩ := tr_all hG.1 hd hx
    rw [px_rt hG hwl hd hf]
    obtain ⟨i, j, a, b, c⟩ := hf
    cases k with
    | zero =>
      obtain ⟨e, _⟩ := a
      subst e
      have := b.1
      rw [hG.1.2.2.2.1] at this
      have e : m = 0 := by omega
      subst e
      rw [hG.1.2.2.2.2.1] at c
      omega
    | succ k => exact (hI.2.1 p i j (k + 1) (all k p i j a) a).2.1 m x b c
  · cases k with
    | zero =>
      obtain ⟨e, _⟩ := h1
      subst e
      rw [hG.1.2.2.2.2.2] at h2
      omega
    | succ k =>
      have := (hI.2.1 p i (t + 1) (k + 1) (all k p i (t + 1) h1) h1).2.2 h2 h0
      rw [Nat.add_sub_cancel] at this
      exact this
theorem yo_po {G : gm_G} {w : Nat → Nat} {f p i j : Nat} {PA PA' : Nat → Int32} (hj : j ≤ 20) (h : yo_p G w f p i j PA PA') : xo_r 20 f PA PA' := by
  intro y hy
  rcases h y with z | ⟨x, m, z, c, _⟩
  · exact z
  · have := tr_Cle c
    omega
theorem yo_so {f k i j : Nat} {SP SP' : Nat → Int32} (hj : j ≤ 20) (h : yo_s f k i j SP SP') : xo_r 20 f SP SP' := by
  rcases Classical.em (k = 1 ∧ i < j) with z | z
  · rw [h.1 z]; exact xo_ru (by omega)
  · rw [h.2 z]; exact xo_rr
/-! around -/
theorem ba_31 : ∀ k, k < 64 → nI k &&& 31 = nI (k % 32) &&& 31 := by decide +kernel
def ya_r (G : gm_G) (w : Nat → Nat) (len x s : Nat) (r : Int32) : Prop := (∃ i, sc_in G w len x i (i + s) ∧ r = nI i) ∨ ((∀ i, ¬ sc_in G w len x i (i + s)) ∧ r = -1)
section
variable {f_np f_built f_some f_empty f_wn f_nt : Int32} {a_pRule a_pScope a_pLen a_sym a_role a_first a_follow a_kind a_val a_len a_word a_reach a_beyond a_way a_known a_bad a_part a_scopes a_inner a_tRule a_tFrom a_tTo a_before : Nat → Int32} {G : gm_G}
theorem ym_ar16 {w : Nat → Nat} {len f x s : Nat} (hf : f < 4) (hx : x < 20) (hs : 1 ≤ s ∧ s ≤ 20) (hsc : ∀ i j, sc_S G w len i j → j ≤ 20) (hsp : ∀ i, i < 20 → gm_ms (a_scopes (f * 20 + i)) (fun t => sc_S G w len i (t + 1))) (post : Int32 → Prop) (hP : ∀ r, ya_r G w len x s r → post r) :
    ∀ d k, k + d = x + 1 → (∀ i, i < k → ¬ sc_in G w len x i (i + s)) → (x < k + s) → wY_around_16 post (nI f) (nI x) (nI s) f_np f_built f_some f_empty f_wn f_nt a_pRule a_pScope a_pLen a_sym a_role a_first a_follow a_kind a_val a_len a_word a_reach a_beyond a_way a_known a_bad a_part a_scopes a_inner a_tRule a_tFrom a_tTo a_before (d + 1) (nI k) := by
  intro d
  induction d with
  | zero =>
    intro k hk hI _
    rw [wY_around_16]
    dsimp only
    refine br_t (nI_lt (by omega) (by omega)) (hP _ (Or.inr ⟨fun i z => ?_, rfl⟩))
    rcases Nat.lt_or_ge i k with y | y
    · exact hI i y z
    · have := z.2.1; omega
  | succ d ih =>
    intro k hk hI hks
    have cI : (nI (f * 20 + k)).toNatClampNeg = f * 20 + k := nI_clamp (by omega)
    have hb : bt (a_scopes (f * 20 + k)) ((k + s - 1) % 32) = true ↔ sc_in G w len x k (k + s) := by
      rw [hsp k (by omega) _ (by omega)]
      dsimp only
      rcases Nat.lt_or_ge (k + s - 1) 32 with z | z
      · rw [Nat.mod_eq_of_lt z, show k + s - 1 + 1 = k + s from by omega]
        exact ⟨fun h => ⟨h, by omega, by omega⟩, fun h => h.1⟩
      · constructor
        · intro h
          have := h.1
          omega
        · intro h
          have := hsc _ _ h.1
          omega
    rw [wY_around_16]
    dsimp only
    rw [ba_20x, cI, nI_add, ba_m1 (by omega), ba_31 _ (by omega)]
    refine br_f (nI_nlt (by omega) (by omega)) ⟨vp_in_nI (by omega) (by omega), ?_⟩
    rcases Classical.em (sc_in G w len x k (k + s)) with z | z
    · exact br_f (by rw [ba_sh (by omega), hb.mpr z]; decide) (hP _ (Or.inl ⟨k, z, rfl⟩))
    · refine br_t ?_ (nm_r (nI_1 k) (ih (k + 1) (by omega) (fun i hi => ?_) (by omega)))
      · rw [ba_sh (by omega)]
        cases h : bt (a_scopes (f * 20 + k)) ((k + s - 1) % 32)
        · rfl
        · exact absurd (hb.mp h) z
      · rcases Nat.lt_or_ge i k with y | y
        · exact hI i y
        · have e : i = k := by omega
          subst e; exact z
theorem ym_ar {w : Nat → Nat} {len f x s : Nat} (hf : f < 4) (hx : x < 20) (hs : 1 ≤ s ∧ s ≤ 20) (hsc : ∀ i j, sc_S G w len i j → j ≤ 20) (hsp : ∀ i, i < 20 → gm_ms (a_scopes (f * 20 + i)) (fun t => sc_S G w len i (t + 1))) (post : Int32 → Prop) (hP : ∀ r, ya_r G w len x s r → post r) : wpY_around post (f_np, f_built, f_some, f_empty, f_wn, f_nt, a_pRule, a_pScope, a_pLen, a_sym, a_role, a_first, a_follow, a_kind, a_val, a_len, a_word, a_reach, a_beyond, a_way, a_known, a_bad, a_part, a_scopes, a_inner, a_tRule, a_tFrom, a_tTo, a_before) (nI f) (nI x) (nI s) := by
  unfold wpY_around
  dsimp only
  refine pk_le s x (fun h => nm_r (by rw [pk_sub h, nI_1]) ⟨s + 1, ?_⟩) (fun h => ⟨x + 1 + 1, ?_⟩)
  · refine ym_ar16 hf hx hs hsc hsp post hP s (x - s + 1) (by omega) (fun i hi z => ?_) (by omega)
    have := z.2.2; omega
  · exact ym_ar16 hf hx hs hsc hsp post hP (x + 1) 0 (by omega) (fun i hi => by omega) (by omega)
/-! the innermost scopes -/
def yi_v (G : gm_G) (w : Nat → Nat) (len x s : Nat) (v : Int32) : Prop := (∃ i j, sc_in G w len x i j ∧ s < j - i ∧ v = nI (32 * i + j) - 1 ∧ ∀ i' j', sc_in G w len x i' j' → s < j' - i' → j - i ≤ j' - i') ∨ ((∀ i' j', sc_in G w len x i' j' → j' - i' ≤ s) ∧ v = -1)
theorem ym_u118 (hG : gm_gd G) {w : Nat → Nat} {len f x : Nat} (hf : f < 4) (hwl : w len = 10) (hn : len ≤ 20) (hx : x < len) (hsp : ∀ i, i < 20 → gm_ms (a_scopes (f * 20 + i)) (fun t => sc_S G w len i (t + 1))) (post : SY → Prop) (J95 : _) {IN0 : Nat → Int32} (hJ : ∀ IN, yi_v G w len x 0 (IN (f * 20 + x)) → (∀ y, y ≠ f * 20 + x → IN y = IN0 y) → J95 (nI (x + 1)) a_pRule a_pScope a_pLen a_sym a_role a_first a_follow a_kind a_val a_len a_word a_reach a_beyond a_way a_known a_bad a_part a_scopes IN a_tRule a_tFrom a_tTo a_before) :
    ∀ s IN, s ≤ 20 → yi_v G w len x s (IN (f * 20 + x)) → (∀ y, y ≠ f * 20 + x → IN y = IN0 y) → wY_unfold_118 post J95 (nI f) (nI x) f_np f_built f_some f_empty f_wn f_nt (s + 1) (nI s) a_pRule a_pScope a_pLen a_sym a_role a_first a_follow a_kind a_val a_len a_word a_reach a_beyond a_way a_known a_bad a_part a_scopes IN a_tRule a_tFrom a_tTo a_before := by
  have hsc : ∀ i j, sc_S G w len i j → j ≤ 20 := fun i j h => by have := sc_len hG hwl h; omega
  have cI : (nI (f * 20 + x)).toNatClampNeg = f * 20 + x := nI_clamp (by omega)
  intro s
  induction s with
  | zero =>
    intro IN _ h1 h2
    rw [wY_unfold_118]
    dsimp only
    exact br_t (by decide) (nm_r (nI_1 x) (hJ IN h1 h2))
  | succ s ih =>
    intro IN hs h1 h2
    rw [wY_unfold_118]
    dsimp only
    refine br_f (nI_nle (by omega) (by omega)) (ym_ar hf (by omega) ⟨by omega, hs⟩ hsc hsp _ (fun r hr => ?_))
    rcases hr with ⟨i, r1, r2⟩ | ⟨r1, r2⟩
    · subst r2
      have l := sc_len hG hwl r1.1
      rw [ba_20x, cI, ba_32x, nI_add]
      refine br_f (nI_pos (by omega)) ⟨vp_in_nI (by omega) (by omega), nm_r (congrArg _ (by rw [ba_ns _ (by omega), ba_vs (by omega)])) (nm_r (by rw [pk_m1]) (ih _ (by omega) ?_ (fun y hy => (pk_un hy).trans (h2 y hy))))⟩
      rw [pk_us]
      refine Or.inl ⟨i, i + (s + 1), r1, by omega, by rw [show 32 * i + (i + (s + 1)) = i * 32 + i + (s + 1) from by omega], fun i' j' _ z => by omega⟩
    · subst r2
      refine br_t (by decide) (nm_r (by rw [pk_m1]) (ih IN (by omega) ?_ h2))
      have ns : ∀ i' j', sc_in G w len x i' j' → j' - i' ≠ s + 1 := by
        intro i' j' z e
        have l := z.1.1
        have ej : j' = i' + (s + 1) := by omega
        subst ej
        exact r1 i' z
      rcases h1 with ⟨i, j, q1, q2, q3, q4⟩ | ⟨q1, q2⟩
      · exact Or.inl ⟨i, j, q1, by omega, q3, fun i' j' z y => q4 i' j' z (by have := ns i' j' z; omega)⟩
      · exact Or.inr ⟨fun i' j' z => by have := q1 i' j' z; have := ns i' j' z; omega, q2⟩
theorem yi_px (hG : gm_gd G) {w : Nat → Nat} {len x : Nat} (hwl : w len = 10) (hd : dr_D G w 0 0 len) {v : Int32} (h : yi_v G w len x 0 v) : v = nI (px_c G w len x) - 1 := by
  rcases h with ⟨i, j, q1, q2, q3, q4⟩ | ⟨q1, q2⟩
  · rw [px_ct hd (a := i) (b := j) ⟨q1, fun a' b' z => ?_⟩]
    · exact q3
    · have l := q4 a' b' z (by have := z.1.1; omega)
      have l1 := z.1.1
      have l2 := q1.1.1
      rcases sc_nest hG hwl q1 z with y | y
      · omega
      · exact y
  · rw [px_cn (fun a b z => ?_), q2]
    · rfl
    · have := q1 a b z
      have := z.1.1
      omega
theorem ym_u95 (hG : gm_gd G) {w : Nat → Nat} {len f : Nat} (hf : f < 4) (hwl : w len = 10) (hn : len ≤ 20) (hd : dr_D G w 0 0 len) (hwn : f_wn = nI len) (hsp : ∀ i, i < 20 → gm_ms (a_scopes (f * 20 + i)) (fun t => sc_S G w len i (t + 1))) (post : SY → Prop) {IN0 : Nat → Int32} (hP : ∀ IN, (∀ x, x < len → IN (f * 20 + x) = nI (px_c G w len x) - 1) → xo_r 20 f IN0 IN → post (f_np, f_built, f_some, f_empty, f_wn, f_nt, a_pRule, a_pScope, a_pLen, a_sym, a_role, a_first, a_follow, a_kind, a_val, a_len, a_word, a_reach, a_beyond, a_way, a_known, a_bad, a_part, a_scopes, IN, a_tRule, a_tFrom, a_tTo, a_before)) :
    ∀ d k IN, k + d = len → (∀ x, x < k → IN (f * 20 + x) = nI (px_c G w len x) - 1) → xo_r 20 f IN0 IN → wY_unfold_95 post (nI f) f_np f_built f_some f_empty f_wn f_nt (d + 1) (nI k) a_pRule a_pScope a_pLen a_sym a_role a_first a_follow a_kind a_val a_len a_word a_reach a_beyond a_way a_known a_bad a_part a_scopes IN a_tRule a_tFrom a_tTo a_before := by
  intro d
  induction d with
  | zero =>
    intro k IN hk h1 h2
    rw [wY_unfold_95]
    dsimp only
    exact br_t (by rw [hwn]; exact nI_le (by omega) (by omega)) (hP IN (fun x hx => h1 x (by omega)) h2)
  | succ d ih =>
    intro k IN hk h1 h2
    have cI : (nI (f * 20 + k)).toNatClampNeg = f * 20 + k := nI_clamp (by omega)
    rw [wY_unfold_95]
    dsimp only
    rw [ba_20x, cI]
    refine br_f (by rw [hwn]; exact nI_ge (by omega) (by omega)) ⟨vp_in_nI (by omega) (by omega), nm_e ⟨20 + 1, ?_⟩⟩
    refine ym_u118 hG hf hwl hn (by omega) hsp post _ (IN0 := IN) (fun IN' q1 q2 => ih (k + 1) IN' (by omega) (fun x hx => ?_) (xo_rt h2 (fun y hy => q2 y (by omega)))) 20 _ (Nat.le_refl _) ?_ (fun y hy => pk_un hy)
    · rcases Nat.lt_or_ge x k with z | z
      · rw [q2 _ (by omega)]; exact h1 x z
      · have e : x = k := by omega
        subst e
        exact yi_px hG hwl hd q1
    · rw [pk_us]
      refine Or.inr ⟨fun i' j' z => ?_, ?_⟩
      · have := sc_len hG hwl z.1; omega
      · rw [show (-1 : Int32) = nI 0 - 1 from by decide, ba_vs (by omega)]
/-! the whole of unfold -/
theorem ym_u41 (hG : gm_gd G) (hy : yg_ok G f_np a_pRule a_pScope a_pLen a_sym a_role) {w : Nat → Nat} {len f : Nat} (hf : f < 4) (hn : len ≤ 20) (hw : yt_w w len f_wn a_word) (hs : yt_s G w len a_reach a_beyond) (hc : yt_c G w len 0 a_reach a_beyond) (hd : dr_D G w 0 0 len) (post : SY → Prop) {PA0 SP0 : Nat → Int32} (hP : ∀ nt WY PA SP IN TR TF TT, (∀ x, x < len → PA (f * 20 + x) = nI (px_r G w len x)) → (∀ i, i < 20 → gm_ms (SP (f * 20 + i)) (fun t => sc_S G w len i (t + 1))) → (∀ x, x < len → IN (f * 20 + x) = nI (px_c G w len x) - 1) → xo_r 20 f PA0 PA → xo_r 20 f SP0 SP → xo_r 20 f a_inner IN → post (f_np, f_built, f_some, f_empty, f_wn, nt, a_pRule, a_pScope, a_pLen, a_sym, a_role, a_first, a_follow, a_kind, a_val, a_len, a_word, a_reach, a_beyond, WY, a_known, a_bad, PA, SP, IN, TR, TF, TT, a_before)) :
    ∀ μ nt (A : Nat → Nat) WY PA SP TR TF TT Dn, ys_m (fun q => 5 ^ (A q + 1)) nt < μ → nt ≤ 400 → (∀ q, q < nt → yu_p G w len q (A q) TR TF TT) → yu_I G w len f nt TR TF TT PA SP Dn → xo_r 20 f PA0 PA → xo_r 20 f SP0 SP → wY_unfold_41 post (nI f) μ f_np f_built f_some f_empty f_wn (nI nt) a_pRule a_pScope a_pLen a_sym a_role a_first a_follow a_kind a_val a_len a_word a_reach a_beyond WY a_known a_bad PA SP a_inner TR TF TT a_before := by
  have hwl : w len = 10 := hw.2.2.2 len (Nat.le_refl _)
  intro μ
  induction μ with
  | zero => intro nt A WY PA SP TR TF TT Dn h; omega
  | succ μ ih =>
    intro nt A WY PA SP TR TF TT Dn hm h4 hq hI o1 o2
    cases nt with
    | zero =>
      obtain ⟨e1, e2⟩ := yu_end hG hwl hn hd hI
      rw [wY_unfold_41]
      dsimp only
      refine br_t (by decide) ⟨len + 1, ?_⟩
      exact ym_u95 hG hf hwl hn hd hw.1 e2 post (fun IN q1 q2 => hP _ WY PA SP IN TR TF TT e1 e2 q1 o1 o2 q2) len 0 a_inner (by omega) (fun x h => by omega) xo_rr
    | succ q0 =>
      obtain ⟨p, i, j, k, hE, hp, hN, hL, hb⟩ := hq q0 (by omega)
      obtain ⟨v, hS, hW, hij, hjl⟩ := tr_b hG hwl k p i j hN
      have c1 : (nI q0).toNatClampNeg = q0 := nI_clamp (by omega)
      have i1 : vp_in (nI q0) 400 := vp_in_nI (by omega) (by omega)
      have r6 := (gm_p0 hG.1 hp).2.1
      have hl4 := (gm_p0 hG.1 hp).2.2.1
      rw [wY_unfold_41]
      dsimp only
      refine br_f (nI_nle (by omega) (by omega)) (nm_r (nI_pred q0) ?_)
      rw [c1, hE.1, hE.2.1, hE.2.2]
      refine ⟨i1, i1, i1, ym_open hG hy hf hn hw hs hc hp hij hjl hW hL hb rfl _ (fun nt WY' PA' SP' TR' TF' TT' n1 n2 n3 n4 n5 n6 => ?_)⟩
      have hI' := yu_st hG hwl hn hp hN hE hI n1 n3 n4 n5 n6
      have hmq : ys_m (fun q => 5 ^ (A q + 1)) (q0 + 1) = ys_m (fun q => 5 ^ (A q + 1)) q0 + 5 ^ (A q0 + 1) := rfl
      have same : ∀ q, q < q0 → (fun q => 5 ^ ((if q < q0 then A q else A q0 - 1) + 1)) q = (fun q => 5 ^ (A q + 1)) q := fun q h => by dsimp only; rw [if_pos h]
      -- the levels of the new ones
      have lvs : ∀ q, q0 ≤ q → q < nt → 1 ≤ A q0 ∧ yu_p G w len q (A q0 - 1) TR' TF' TT' := by
        intro q h1 h2
        obtain ⟨m, a, b, s1, s2, s3, s4⟩ := n6.1 q h1 h2
        cases hA : A q0 with
        | zero => rw [hA] at s4; exact s4.elim
        | succ lv =>
          rw [hA] at s4 hb
          obtain ⟨p', t1, t2, t3⟩ := s4
          refine ⟨by omega, p', a, b, k + 1, ?_, t1, ⟨p, i, j, m, hN, s2, by omega, t1, dr_sg_m1 (fun _ _ _ z => ⟨lv, z⟩) t3⟩, by rw [Nat.add_sub_cancel]; exact t3, by omega⟩
          rw [t2]; exact s1
      have up : ∀ d, q0 + d ≤ nt → ys_m (fun q => 5 ^ ((if q < q0 then A q else A q0 - 1) + 1)) (q0 + d) = ys_m (fun q => 5 ^ (A q + 1)) q0 + d * 5 ^ (A q0 - 1 + 1) := by
        intro d
        induction d with
        | zero =>
          intro _
          rw [Nat.zero_mul]
          exact Nat.le_antisymm (ys_le (fun q h => Nat.le_of_eq (same q h))) (ys_le (fun q h => Nat.le_of_eq (same q h).symm))
        | succ d id =>
          intro hd
          show ys_m _ (q0 + d) + 5 ^ ((if q0 + d < q0 then A (q0 + d) else A q0 - 1) + 1) = _
          rw [id (by omega), if_neg (by omega), Nat.succ_mul]
          omega
      refine ih nt (fun q => if q < q0 then A q else A q0 - 1) WY' PA' SP' TR' TF' TT' _ ?_ (by omega) (fun q h => ?_) hI' (xo_rt o1 (yo_po (by omega) n3)) (xo_rt o2 (yo_so (by omega) n4))
      · have u := up (nt - q0) (by omega)
        rw [show q0 + (nt - q0) = nt from by omega] at u
        rw [u]
        rw [hmq] at hm
        rcases Nat.lt_or_ge q0 nt with y | y
        · have a1 := (lvs q0 (Nat.le_refl _) y).1
          rw [show A q0 - 1 + 1 = A q0 from by omega]
          have b1 : (nt - q0) * 5 ^ A q0 ≤ 4 * 5 ^ A q0 := Nat.mul_le_mul_right _ (by omega)
          have b2 : 5 ^ (A q0 + 1) = 5 ^ A q0 * 5 := Nat.pow_succ _ _
          have b3 : 0 < 5 ^ A q0 := Nat.pow_pos (by omega)
          omega
        · rw [show nt - q0 = 0 from by omega, Nat.zero_mul]
          have b3 : 0 < 5 ^ (A q0 + 1) := Nat.pow_pos (by omega)
          omega
      · rcases Nat.lt_or_ge q q0 with y | y
        · obtain ⟨p', i', j', k', t1, t2, t3, t4, t5⟩ := hq q (by omega)
          obtain ⟨s1, s2, s3⟩ := n5 q y
          rw [if_pos y]
          exact ⟨p', i', j', k', ⟨s1.trans t1.1, s2.trans t1.2.1, s3.trans t1.2.2⟩, t2, t3, t4, t5⟩
        · rw [if_neg (by omega)]
          exact (lvs q y h).2
theorem ym_u2 {f : Nat} (hf : f < 4) (post : SY → Prop) {SP0 : Nat → Int32} (hP : ∀ SP, (∀ x, x < 20 → SP (f * 20 + x) = 0) → xo_r 20 f SP0 SP → wpY_below (fun u => match u with | (f_np, f_built, f_some, f_empty, f_wn, f_nt, a_pRule, a_pScope, a_pLen, a_sym, a_role, a_first, a_follow, a_kind, a_val, a_len, a_word, a_reach, a_beyond, a_way, a_known, a_bad, a_part, a_scopes, a_inner, a_tRule, a_tFrom, a_tTo, a_before) => ∃ n41 : Nat, wY_unfold_41 post (nI f) n41 f_np f_built f_some f_empty f_wn f_nt a_pRule a_pScope a_pLen a_sym a_role a_first a_follow a_kind a_val a_len a_word a_reach a_beyond a_way a_known a_bad a_part a_scopes a_inner a_tRule a_tFrom a_tTo a_before) (f_np, f_built, f_some, f_empty, f_wn, 0, a_pRule, a_pScope, a_pLen, a_sym, a_role, a_first, a_follow, a_kind, a_val, a_len, a_word, a_reach, a_beyond, a_way, a_known, a_bad, a_part, SP, a_inner, a_tRule, a_tFrom, a_tTo, a_before) 0 0 f_wn) :
    ∀ d k SP, k + d = 20 → (∀ x, x < k → SP (f * 20 + x) = 0) → xo_r 20 f SP0 SP → wY_unfold_2 post (nI f) f_np f_built f_some f_empty f_wn f_nt (d + 1) (nI k) a_pRule a_pScope a_pLen a_sym a_role a_first a_follow a_kind a_val a_len a_word a_reach a_beyond a_way a_known a_bad a_part SP a_inner a_tRule a_tFrom a_tTo a_before := by
  intro d
  induction d with
  | zero =>
    intro k SP hk h1 h2
    rw [wY_unfold_2]
    dsimp only
    exact br_t (nI_le (a := 20) (by omega) (by omega)) (hP SP (fun x hx => h1 x (by omega)) h2)
  | succ d ih =>
    intro k SP hk h1 h2
    have cI : (nI (f * 20 + k)).toNatClampNeg = f * 20 + k := nI_clamp (by omega)
    rw [wY_unfold_2]
    dsimp only
    rw [ba_20x, cI]
    refine br_f (nI_ge (b := 20) (by omega) (by omega)) ⟨vp_in_nI (by omega) (by omega), nm_e (nm_r (nI_1 k) (ih (k + 1) _ (by omega) (fun x hx => ?_) (xo_rt h2 (xo_ru (by omega)))))⟩
    rcases Classical.em (x = k) with e | e
    · subst e; rw [pk_us]
    · rw [pk_un (by omega)]; exact h1 x (by omega)
theorem ym_unfold (hG : gm_gd G) (hy : yg_ok G f_np a_pRule a_pScope a_pLen a_sym a_role) {w : Nat → Nat} {len f : Nat} (hf : f < 4) (hn : len ≤ 20) (hw : yt_w w len f_wn a_word) (hs : yt_s G w len a_reach a_beyond) (hc : yt_c G w len 0 a_reach a_beyond) (hd : dr_D G w 0 0 len) (post : SY → Prop) (hP : ∀ nt WY PA SP IN TR TF TT, (∀ x, x < len → PA (f * 20 + x) = nI (px_r G w len x)) → (∀ i, i < 20 → gm_ms (SP (f * 20 + i)) (fun t => sc_S G w len i (t + 1))) → (∀ x, x < len → IN (f * 20 + x) = nI (px_c G w len x) - 1) → xo_r 20 f a_part PA → xo_r 20 f a_scopes SP → xo_r 20 f a_inner IN → post (f_np, f_built, f_some, f_empty, f_wn, nt, a_pRule, a_pScope, a_pLen, a_sym, a_role, a_first, a_follow, a_kind, a_val, a_len, a_word, a_reach, a_beyond, WY, a_known, a_bad, PA, SP, IN, TR, TF, TT, a_before)) : wpY_unfold post (f_np, f_built, f_some, f_empty, f_wn, f_nt, a_pRule, a_pScope, a_pLen, a_sym, a_role, a_first, a_follow, a_kind, a_val, a_len, a_word, a_reach, a_beyond, a_way, a_known, a_bad, a_part, a_scopes, a_inner, a_tRule, a_tFrom, a_tTo, a_before) (nI f) := by
  have hwl : w len = 10 := hw.2.2.2 len (Nat.le_refl _)
  have hlim := dr_lim hG.1 (len + 1) 0 0 len (by omega) hd
  obtain ⟨lv, hlv⟩ : ∃ lv, 6 * (len - 0 + 1) = lv + 1 := ⟨6 * (len - 0 + 1) - 1, by omega⟩
  rw [hlv] at hlim
  obtain ⟨p, hp, hr, hL⟩ := hlim
  have hroot : tr_N G w len 0 14 0 len := tr_r hG.1 hd
  have hN : tr_N G w len 1 p 0 len := by
    refine ⟨14, 0, len, 0, hroot, ⟨by rw [hG.1.2.2.2.1]; omega, rfl, Or.inr ⟨by rw [hG.1.2.2.2.2.1]; omega, by rw [hG.1.2.2.2.2.1]; exact hd⟩, ?_⟩, by rw [hG.1.2.2.2.2.1, hr], hp, dr_sg_m1 (fun _ _ _ z => ⟨lv, z⟩) hL⟩
    rw [hG.1.2.2.2.1]
    exact rfl
  refine ⟨20 + 1, ym_u2 hf post (fun SP q1 q2 => ?_) 20 0 a_scopes (by omega) (fun x h => by omega) xo_rr⟩
  rw [hw.1]
  refine ym_below (nt := 0) (n := 0) (i := 0) (j := len) (by omega) (by omega) (by omega) (by omega) rfl _ ⟨5 ^ (lv + 1) + 1, ?_⟩
  rw [← hw.1]
  refine ym_u41 hG hy hf hn hw hs hc hd post (PA0 := a_part) (SP0 := a_scopes) hP (5 ^ (lv + 1) + 1) 1 (fun _ => lv) a_way a_part SP _ _ _ (fun _ _ _ => False) ?_ (by omega) (fun q h => ?_) ⟨fun p' i' j' h => ?_, fun p' i' j' k' h => h.elim, fun i t hi ht h => ?_⟩ xo_rr q2
  · show 0 + 5 ^ (lv + 1) < _
    omega
  · have e : q = 0 := by omega
    subst e
    exact ⟨p, 0, len, 1, ⟨by rw [hr]; exact pk_us, pk_us, pk_us.trans hw.1⟩, hp, hN, hL, by omega⟩
  · right
    obtain ⟨P, I, J, m, a, b, c, d, e⟩ := h
    obtain ⟨e1, e2, e3, _⟩ := a
    subst e1 e2 e3
    have hm := b.1
    rw [hG.1.2.2.2.1] at hm
    have em : m = 0 := by omega
    subst em
    rw [hG.1.2.2.2.2.1] at c
    have z1 : 0 = i' := b.2.1
    have z2 := b.2.2.2
    rw [hG.1.2.2.2.1] at z2
    have z2 : j' = J := z2
    refine ⟨0, by omega, ?_, ?_, ?_⟩
    · rw [show gm_r G p' = 0 from by omega]; exact pk_us
    · rw [← z1]; exact pk_us
    · rw [z2]; exact pk_us.trans hw.1
  · rw [q1 i hi, b_0] at h
    exact absurd h (by decide)
end
end
section
/-! Y against the pure state: know, is -/
def yf_ok (G : gm_G) (w : Nat → Nat) (n : Nat) (ba : Int32) (pa inn sp : Nat → Int32) : Prop := px_b G w n ba ∧ (dr_D G w 0 0 n → (∀ x, x < n → pa x = nI (px_r G w n x) ∧ inn x = nI (px_c G w n x) - 1) ∧ ∀ i, i < 20 → gm_ms (sp i) (fun t => sc_S G w n i (t + 1)))
def ry_f (G : gm_G) (L K : Nat → Nat) (f : Nat) (BA PA IN SP : Nat → Int32) : Prop := yf_ok G (tx_w L K f) (L f) (BA f) (fun x => PA (f * 20 + x)) (fun x => IN (f * 20 + x)) (fun x => SP (f * 20 + x))
def ry_R (b : Bool) (G : gm_G) (L K V : Nat → Nat) (v : SY) : Prop := match v with
  | (f_np, f_built, f_some, f_empty, f_wn, f_nt, a_pRule, a_pScope, a_pLen, a_sym, a_role, a_first, a_follow, a_kind, a_val, a_len, a_word, a_reach, a_beyond, a_way, a_known, a_bad, a_part, a_scopes, a_inner, a_tRule, a_tFrom, a_tTo, a_before) => f_built = rb b ∧ yg_ok G f_np a_pRule a_pScope a_pLen a_sym a_role ∧ rx_t L K V a_len a_kind a_val ∧ ∀ f, f < 4 → a_known f = 0 ∨ (b = true ∧ a_known f = 1 ∧ ry_f G L K f a_bad a_part a_inner a_scopes)
def ry_K (G : gm_G) (L K : Nat → Nat) (f : Nat) (v : SY) : Prop := match v with
  | (f_np, f_built, f_some, f_empty, f_wn, f_nt, a_pRule, a_pScope, a_pLen, a_sym, a_role, a_first, a_follow, a_kind, a_val, a_len, a_word, a_reach, a_beyond, a_way, a_known, a_bad, a_part, a_scopes, a_inner, a_tRule, a_tFrom, a_tTo, a_before) => a_known f = 1 ∧ ry_f G L K f a_bad a_part a_inner a_scopes
def ry_B (v : SY) : Nat → Int32 := match v with
  | (f_np, f_built, f_some, f_empty, f_wn, f_nt, a_pRule, a_pScope, a_pLen, a_sym, a_role, a_first, a_follow, a_kind, a_val, a_len, a_word, a_reach, a_beyond, a_way, a_known, a_bad, a_part, a_scopes, a_inner, a_tRule, a_tFrom, a_tTo, a_before) => a_before
theorem px_e_up {G : gm_G} {w : Nat → Nat} {k : Nat} (hw : w k < 10) (h : px_e G w k (w k)) : ∃ t, px_e G w (k + 1) t := by
  obtain ⟨w', j, a, b, c, e, f⟩ := h
  have hkj : k < j := by
    rcases Nat.lt_or_ge k j with z | z
    · exact z
    · have q : k = j := by omega
      subst q; omega
  refine ⟨w' (k + 1), w', j, fun x hx => ?_, rfl, hkj, e, f⟩
  rcases Nat.lt_or_ge x k with z | z
  · exact a x z
  · have q : x = k := by omega
    subst q; exact b
theorem yb_via {G : gm_G} {w wk : Nat → Nat} {k : Nat} (hk : ∀ x, x < k → wk x = w x) : yb G wk k 0 0 ↔ ∃ t, px_e G w k t := by
  constructor
  · intro ⟨w', t, a, b, c⟩
    refine ⟨_, fun x => if x < t then w' x else 10, t, fun x hx => ?_, rfl, b, if_neg (Nat.lt_irrefl _), dr_D_w (fun x _ hx => (if_pos hx).symm) c⟩
    exact (if_pos (by omega)).trans ((a x hx).trans (hk x hx))
  · intro ⟨t, w', j, a, b, c, e, f⟩
    exact ⟨w', j, fun x hx => (a x hx).trans (hk x hx).symm, c, f⟩
theorem px_0 {G : gm_G} (hG : gm_gd G) (w : Nat → Nat) : ∃ t, px_e G w 0 t := by
  obtain ⟨k, hk⟩ := hG.2.1 0 (by omega) (Or.inl rfl)
  obtain ⟨w', t, a, b, c⟩ := dr_pr_of k 0 hk w 0
  exact (yb_via (fun _ _ => rfl)).mp ⟨w', t, a, b, c⟩
def yk_w (w : Nat → Nat) (k x : Nat) : Nat := if x < k then w x else 10
section
variable {f_np f_built f_some f_empty f_wn f_nt : Int32} {a_pRule a_pScope a_pLen a_sym a_role a_first a_follow a_kind a_val a_len a_word a_reach a_beyond a_way a_known a_bad a_part a_scopes a_inner a_tRule a_tFrom a_tTo a_before : Nat → Int32} {G : gm_G} {L K V : Nat → Nat}
theorem ym_go {w : Nat → Nat} {wn : Nat} (hG : gm_gd G) (hs : yt_s G w wn a_reach a_beyond) (hc : yt_c G w wn 0 a_reach a_beyond) (post : Int32 → Prop) (h1 : yb G w wn 0 0 → post 1) (h0 : ¬ yb G w wn 0 0 → post 0) : wpY_goesOn post (f_np, f_built, f_some, f_empty, f_wn, f_nt, a_pRule, a_pScope, a_pLen, a_sym, a_role, a_first, a_follow, a_kind, a_val, a_len, a_word, a_reach, a_beyond, a_way, a_known, a_bad, a_part, a_scopes, a_inner, a_tRule, a_tFrom, a_tTo, a_before) := by
  have hb : bt (a_beyond 0) 0 = true ↔ yb G w wn 0 0 := ⟨hs.2 0 (by omega) (Or.inl rfl) 0 (Nat.zero_le _), hc.2 0 (by omega) (Or.inl rfl) 0 (Nat.le_refl _) (Nat.zero_le _)⟩
  unfold wpY_goesOn
  dsimp only
  rcases Classical.em (yb G w wn 0 0) with z | z
  · exact br_f (by rw [ba_b1, hb.mpr z]; decide) (h1 z)
  · refine br_t ?_ (h0 z)
    rw [ba_b1]
    cases h : bt (a_beyond 0) 0
    · rfl
    · exact absurd (hb.mp h) z
theorem ym_wh {w : Nat → Nat} {wn : Nat} (hw : yt_w w wn f_wn a_word) (hs : yt_s G w wn a_reach a_beyond) (hc : yt_c G w wn 0 a_reach a_beyond) (post : Int32 → Prop) (h1 : dr_D G w 0 0 wn → post 1) (h0 : ¬ dr_D G w 0 0 wn → post 0) : wpY_whole post (f_np, f_built, f_some, f_empty, f_wn, f_nt, a_pRule, a_pScope, a_pLen, a_sym, a_role, a_first, a_follow, a_kind, a_val, a_len, a_word, a_reach, a_beyond, a_way, a_known, a_bad, a_part, a_scopes, a_inner, a_tRule, a_tFrom, a_tTo, a_before) := by
  have hn := hw.2.1
  have hb : bt (a_reach 0) wn = true ↔ dr_D G w 0 0 wn := ⟨fun z => hs.1 0 0 wn ⟨by omega, by omega, by omega, z⟩, fun z => hc.1 0 0 wn (Nat.zero_le _) (Nat.zero_le _) z⟩
  unfold wpY_whole
  dsimp only
  rcases Classical.em (dr_D G w 0 0 wn) with z | z
  · refine br_f ?_ (h1 z)
    rw [hw.1, ba_sh (by omega), hb.mpr z]; decide
  · refine br_t ?_ (h0 z)
    rw [hw.1, ba_sh (by omega)]
    cases h : bt (a_reach 0) wn
    · rfl
    · exact absurd (hb.mp h) z
theorem ym_k56 (hG : gm_gd G) (hy : yg_ok G f_np a_pRule a_pScope a_pLen a_sym a_role) {w : Nat → Nat} {len f : Nat} (hf : f < 4) (hn : len ≤ 20) (hno : ¬ dr_D G w 0 0 len) (hk : ∀ x, x < len → a_kind (f * 20 + x) = nI (w x) ∧ w x < 10) (post : SY → Prop) (hP : ∀ wn WO RE BE WY BA, px_b G w len (BA f) → (∀ g, g ≠ f → BA g = a_bad g) → post (f_np, f_built, f_some, f_empty, wn, f_nt, a_pRule, a_pScope, a_pLen, a_sym, a_role, a_first, a_follow, a_kind, a_val, a_len, WO, RE, BE, WY, a_known, BA, a_part, a_scopes, a_inner, a_tRule, a_tFrom, a_tTo, a_before)) :
    ∀ k WO RE BE WY, k ≤ len → (k < len → ¬ px_e G w k (w k)) → yt_w (yk_w w k) k (nI k) WO → yt_s G (yk_w w k) k RE BE → yt_c G (yk_w w k) k 0 RE BE → wY_know_56 post (nI f) (k + 1) (nI k) f_np f_built f_some f_empty (nI k) f_nt a_pRule a_pScope a_pLen a_sym a_role a_first a_follow a_kind a_val a_len WO RE BE WY a_known a_bad a_part a_scopes a_inner a_tRule a_tFrom a_tTo a_before := by
  have cF : (nI f).toNatClampNeg = f := nI_clamp (by omega)
  have iF : vp_in (nI f) 4 := vp_in_nI (by omega) (by omega)
  have wkw : ∀ k x, x < k → yk_w w k x = w x := fun k x hx => if_pos hx
  intro k
  induction k with
  | zero =>
    intro WO RE BE WY hkl hnx hw hs hc
    rw [wY_know_56]
    dsimp only
    rw [cF]
    refine br_t (by decide) ⟨iF, nm_r (congrArg _ (show vp_nar .byte ((nI 0).toInt8.toInt32) = nI 0 from by rw [ba_nb 0 (by omega), ba_vb (by omega)])) (hP _ WO RE BE WY _ (Or.inr ⟨hno, 0, by omega, pk_us, px_0 hG w, hnx⟩) (fun g hg => pk_un hg))⟩
  | succ k ih =>
    intro WO RE BE WY hkl hnx hw hs hc
    rw [wY_know_56]
    dsimp only
    rw [cF]
    refine br_f (nI_nle (by omega) (by omega)) (ym_go hG hs hc _ (fun h => br_f (by decide) ⟨iF, ?_⟩) (fun h => br_t rfl (nm_r (pk_m1 k) ?_)))
    · exact nm_r (congrArg _ (by rw [ba_nb _ (by omega), ba_vb (by omega)])) (hP _ WO RE BE WY _ (Or.inr ⟨hno, k + 1, hkl, pk_us, (yb_via (wkw (k + 1))).mp h, hnx⟩) (fun g hg => pk_un hg))
    · refine ym_take hG hy (w := yk_w w k) (wn := k) hf (by omega) (Or.inl ⟨rfl, rfl⟩) (fun x hx => ?_) (fun x hx => if_neg (by omega)) _ (fun WO' RE' BE' WY' q1 q2 q3 => ih WO' RE' BE' WY' (by omega) (fun _ z => ?_) q1 q2 q3)
      · rw [wkw k x hx]; exact hk x (by omega)
      · exact h ((yb_via (wkw (k + 1))).mpr (px_e_up (hk k (by omega)).2 z))
/-- know, at the level of the arrays -/
theorem ym_know0 (hG : gm_gd G) (hy : yg_ok G f_np a_pRule a_pScope a_pLen a_sym a_role) {w : Nat → Nat} {len f : Nat} (hf : f < 4) (hn : len ≤ 20) (h4 : ∀ x, len ≤ x → w x = 10) (hl : a_len f = nI len) (hk : ∀ x, x < len → a_kind (f * 20 + x) = nI (w x) ∧ w x < 10) (h0 : a_known f = 0) (post : SY → Prop) (hP : ∀ wn nt WO RE BE WY BA PA SP IN TR TF TT, yf_ok G w len (BA f) (fun x => PA (f * 20 + x)) (fun x => IN (f * 20 + x)) (fun x => SP (f * 20 + x)) → (∀ g, g ≠ f → BA g = a_bad g) → xo_r 20 f a_part PA → xo_r 20 f a_scopes SP → xo_r 20 f a_inner IN → post (f_np, f_built, f_some, f_empty, wn, nt, a_pRule, a_pScope, a_pLen, a_sym, a_role, a_first, a_follow, a_kind, a_val, a_len, WO, RE, BE, WY, upd a_known f 1, BA, PA, SP, IN, TR, TF, TT, a_before)) : wpY_know post (f_np, f_built, f_some, f_empty, f_wn, f_nt, a_pRule, a_pScope, a_pLen, a_sym, a_role, a_first, a_follow, a_kind, a_val, a_len, a_word, a_reach, a_beyond, a_way, a_known, a_bad, a_part, a_scopes, a_inner, a_tRule, a_tFrom, a_tTo, a_before) (nI f) := by
  have cF : (nI f).toNatClampNeg = f := nI_clamp (by omega)
  have iF : vp_in (nI f) 4 := vp_in_nI (by omega) (by omega)
  have bm1 : vp_nar .byte (-1) = -1 := by rw [vp_nar_byte]; decide
  unfold wpY_know
  dsimp only
  rw [cF, hl]
  refine ⟨iF, br_t h0 ⟨iF, nm_r (congrArg _ ba_bool1) ⟨iF, ?_⟩⟩⟩
  refine ym_take hG hy (w := w) (wn := len) hf hn (Or.inl ⟨rfl, rfl⟩) hk h4 _ (fun WO RE BE WY q1 q2 q3 => ⟨iF, nm_r (congrArg _ bm1) ?_⟩)
  refine ym_wh q1 q2 q3 _ (fun hd => br_f (by decide) ?_) (fun hd => br_t rfl ⟨iF, nm_r hl ⟨len + 1, ?_⟩⟩)
  · refine ym_unfold hG hy hf hn q1 q2 q3 hd _ (fun nt WY' PA SP IN TR TF TT r1 r2 r3 r4 r5 r6 => hP _ nt WO RE BE WY' _ PA SP IN TR TF TT ⟨Or.inl ⟨hd, pk_us⟩, fun _ => ⟨fun x hx => ⟨r1 x hx, r3 x hx⟩, r2⟩⟩ (fun g hg => pk_un hg) r4 r5 r6)
  · have e : yk_w w len = w := by
      funext x
      unfold yk_w
      split
      · rfl
      · next h => exact (h4 x (by omega)).symm
    refine ym_k56 hG hy hf hn hd hk post (fun wn WO RE BE WY BA r1 r2 => hP wn _ WO RE BE WY BA _ _ _ _ _ _ ⟨r1, fun z => absurd z hd⟩ (fun g hg => (r2 g hg).trans (pk_un hg)) xo_rr xo_rr xo_rr) len WO RE BE WY (Nat.le_refl _) (fun z => absurd z (Nat.lt_irrefl _)) (by rw [e]; exact q1) (by rw [e]; exact q2) (by rw [e]; exact q3)
end
section
variable {G : gm_G} {L K V : Nat → Nat}
theorem ym_knowB {v : SY} (hG : gm_gd G) (hT : tx_ok L K V) (hY : ry_R true G L K V v) {f : Nat} (hf : f < 4) (post : SY → Prop) (hP : ∀ v', ry_R true G L K V v' → ry_K G L K f v' → ry_B v' = ry_B v ∧ (∀ g, g < 4 → ry_K G L K g v → ry_K G L K g v') → post v') : wpY_know post v (nI f) := by
  obtain ⟨f_np, f_built, f_some, f_empty, f_wn, f_nt, a_pRule, a_pScope, a_pLen, a_sym, a_role, a_first, a_follow, a_kind, a_val, a_len, a_word, a_reach, a_beyond, a_way, a_known, a_bad, a_part, a_scopes, a_inner, a_tRule, a_tFrom, a_tTo, a_before⟩ := v
  have hY0 := hY
  obtain ⟨h1, h2, h3, h4⟩ := hY
  have l := hT.1 f hf
  rcases h4 f hf with z | ⟨_, z1, z2⟩
  · refine ym_know0 hG h2 (w := tx_w L K f) hf l (fun x hx => if_neg (by omega)) (h3.1 f hf) (tx_wk hT h3 hf) z post (fun wn nt WO RE BE WY BA PA SP IN TR TF TT q1 q2 q3 q4 q5 => ?_)
    have kp : ∀ g, g < 4 → g ≠ f → ry_f G L K g a_bad a_part a_inner a_scopes → ry_f G L K g BA PA IN SP := fun g hg e ⟨y2, y3⟩ => by
      have lg := hT.1 g hg
      refine ⟨by rw [q2 g e]; exact y2, fun hd => ⟨fun x hx => ?_, fun i hi => ?_⟩⟩
      · obtain ⟨t1, t2⟩ := (y3 hd).1 x hx
        exact ⟨(q3 _ (by omega)).trans t1, (q5 _ (by omega)).trans t2⟩
      · show gm_ms (SP (g * 20 + i)) _
        rw [q4 _ (by omega)]
        exact (y3 hd).2 i hi
    refine hP _ ⟨h1, h2, h3, fun g hg => ?_⟩ ⟨pk_us, q1⟩ ⟨rfl, fun g hg hk => ?_⟩
    · rcases Classical.em (g = f) with e | e
      · subst e
        exact Or.inr ⟨rfl, pk_us, q1⟩
      · show upd a_known f 1 g = 0 ∨ _ ∧ upd a_known f 1 g = 1 ∧ _
        rw [pk_un e]
        rcases h4 g hg with y | ⟨_, y1, y2⟩
        · exact Or.inl y
        · exact Or.inr ⟨rfl, y1, kp g hg e y2⟩
    · rcases Classical.em (g = f) with e | e
      · subst e
        exact ⟨pk_us, q1⟩
      · exact ⟨(pk_un e).trans hk.1, kp g hg e hk.2⟩
  · have cF : (nI f).toNatClampNeg = f := nI_clamp (by omega)
    unfold wpY_know
    dsimp only
    rw [cF]
    exact ⟨vp_in_nI (by omega) (by omega), br_f (by rw [z1]; decide) (hP _ hY0 ⟨z1, z2⟩ ⟨rfl, fun _ _ h => h⟩)⟩
theorem ym_know {v : SY} (hG : gm_gd G) (hT : tx_ok L K V) (hY : ry_R true G L K V v) {f : Nat} (hf : f < 4) (post : SY → Prop) (hP : ∀ v', ry_R true G L K V v' → ry_K G L K f v' → post v') : wpY_know post v (nI f) := ym_knowB hG hT hY hf post (fun v' a b _ => hP v' a b)
/-- the role at a position of a file -/
noncomputable def pl_r (G : gm_G) (L K : Nat → Nat) (f x : Nat) : Nat := px_r G (tx_w L K f) (L f) x
noncomputable def pl_c (G : gm_G) (L K : Nat → Nat) (f x : Nat) : Nat := px_c G (tx_w L K f) (L f) x
theorem px_r4 (hG : gm_gd G) {w : Nat → Nat} {n x : Nat} (hw : w n = 10) : px_r G w n x < 4 := by
  rcases Classical.em (dr_D G w 0 0 n ∧ ∃ k p m, tr_f G w n k x p m) with ⟨hd, k, p, m, h⟩ | h
  · rw [px_rt hG hw hd h]
    obtain ⟨i, j, a, b, c⟩ := h
    obtain ⟨v, _⟩ := tr_b hG hw k p i j a
    rcases v with v | v
    · exact ((hG.1.2.1 p v).2.2.2 m b.1).2 c
    · subst v
      have := b.1
      rw [hG.1.2.2.2.1] at this
      have e : m = 0 := by omega
      subst e
      rw [hG.1.2.2.2.2.1] at c
      omega
  · unfold px_r
    rw [cl_f (fun r ⟨h1, k, p, m, h2, _⟩ => h ⟨h1, k, p, m, h2⟩)]
    omega
theorem ym_is {v : SY} (hG : gm_gd G) (hT : tx_ok L K V) (hY : ry_R true G L K V v) {f x r : Nat} (hf : f < 4) (hx : x < 20) (hr : 1 ≤ r ∧ r < 4) (post : Int32 → SY → Prop) (hP1 : pl_r G L K f x = r → ∀ v', ry_R true G L K V v' → ry_K G L K f v' → ry_B v' = ry_B v ∧ (∀ g, g < 4 → ry_K G L K g v → ry_K G L K g v') → post 1 v') (hP0 : ¬ pl_r G L K f x = r → ∀ v', ry_R true G L K V v' → ry_K G L K f v' → ry_B v' = ry_B v ∧ (∀ g, g < 4 → ry_K G L K g v → ry_K G L K g v') → post 0 v') : wpY_is post v (nI f) (nI x) (nI r) := by
  obtain ⟨f_np, f_built, f_some, f_empty, f_wn, f_nt, a_pRule, a_pScope, a_pLen, a_sym, a_role, a_first, a_follow, a_kind, a_val, a_len, a_word, a_reach, a_beyond, a_way, a_known, a_bad, a_part, a_scopes, a_inner, a_tRule, a_tFrom, a_tTo, a_before⟩ := v
  unfold wpY_is
  dsimp only
  refine ym_knowB hG hT hY hf _ (fun v' hv hk hB => ?_)
  obtain ⟨f_np, f_built, f_some, f_empty, f_wn, f_nt, a_pRule, a_pScope, a_pLen, a_sym, a_role, a_first, a_follow, a_kind, a_val, a_len, a_word, a_reach, a_beyond, a_way, a_known, a_bad, a_part, a_scopes, a_inner, a_tRule, a_tFrom, a_tTo, a_before⟩ := v'
  have hv0 := hv
  have hk0 := hk
  obtain ⟨h1, h2, h3, h4⟩ := hv
  obtain ⟨k1, k2, k3⟩ := hk
  have l := hT.1 f hf
  have cF : (nI f).toNatClampNeg = f := nI_clamp (by omega)
  have iF : vp_in (nI f) 4 := vp_in_nI (by omega) (by omega)
  have cI : (nI (f * 20 + x)).toNatClampNeg = f * 20 + x := nI_clamp (by omega)
  dsimp only
  rw [cF, h3.1 f hf, ba_20x, cI]
  refine ⟨iF, ?_⟩
  have hwn : tx_w L K f (L f) = 10 := tx_wn
  rcases k2 with ⟨d1, d2⟩ | ⟨d1, k, d2, d3, _⟩
  · refine br_f (by rw [d2]; decide) ⟨iF, pk_le (L f) x (fun z => hP0 ?_ _ hv0 hk0 hB) (fun z => ⟨vp_in_nI (by omega) (by omega), ?_⟩)⟩
    · unfold pl_r
      rw [px_rn hG hwn z]
      omega
    · have e := ((k3 d1).1 x z).1
      have e : a_part (f * 20 + x) = nI (px_r G (tx_w L K f) (L f) x) := e
      rw [e]
      have b4 := px_r4 (x := x) hG hwn
      exact pk_eq (px_r G (tx_w L K f) (L f) x) r (fun z => hP1 z _ hv0 hk0 hB) (fun z => hP0 z _ hv0 hk0 hB)
  · refine br_t (by rw [d3]; exact nI_pos' (by omega)) (hP0 ?_ _ hv0 hk0 hB)
    unfold pl_r
    rw [px_r0 d1]
    omega
end
end
section
/-! the relation; production, symbol, build, restart -/
def i_Rel (k : Nat) (u : SX) (v : SY) : Prop := ∃ b G L K V, pr_ok b G L K V ∧ rx_R b G L K V u ∧ ry_R b G L K V v
theorem i_up {k : Nat} {u : SX} {v : SY} (h : i_Rel k u v) : i_Rel (k + 5) u v := h
theorem ba_ix {v : Int32} {n : Nat} (hn : n < 2 ^ 31) (h0 : ¬ v < 0) (h1 : ¬ nI n ≤ v) : ∃ j, j < n ∧ v = nI j := by
  rcases pk_ix v hn with h | h | h
  · exact absurd h h0
  · exact absurd h h1
  · exact h
theorem ba_lp {a b : Int32} (h : a < b) : ¬ b ≤ a := fun z => Int32.lt_irrefl (Int32.lt_of_lt_of_le h z)
theorem i_vc0 : wpX_init (fun u => wpY_init (fun v => i_Rel 0 u v)) := by
  unfold wpX_init wpY_init
  refine nm_e (nm_e ?_)
  refine ⟨false, (0, fun _ => 0, ud (fun _ => 0) 14 1, fun p m => if p = 14 then 10 else 0, fun _ _ => 0, fun _ => 0), fun _ => 0, fun _ => 0, fun _ => 0, ⟨⟨Nat.zero_le _, fun p hp => absurd hp (Nat.not_lt_zero _), rfl, rfl, rfl, rfl⟩, ⟨fun _ _ => Nat.zero_le _, fun _ _ => ⟨Nat.zero_lt_succ _, Nat.zero_lt_succ _⟩⟩, (fun h => nomatch h), fun _ _ _ => rfl⟩, ⟨rfl, ⟨rfl, fun p hp => ?_⟩, ⟨fun _ _ => rfl, fun _ _ => ⟨rfl, rfl⟩⟩, (fun h => nomatch h), fun _ x hx => ?_⟩, ⟨rfl, ⟨rfl, fun p hp => absurd hp (Nat.not_lt_zero _)⟩, ⟨fun _ _ => rfl, fun _ _ => ⟨rfl, rfl⟩⟩, fun _ _ => Or.inl rfl⟩⟩
  · rcases hp with hp | hp
    · exact absurd hp (Nat.not_lt_zero _)
    · subst hp
      refine ⟨rfl, rfl, rfl, fun m hm => ?_⟩
      have hm : m < 1 := hm
      have e : m = 0 := by omega
      subst e
      exact ⟨rfl, fun h => absurd h (by decide)⟩
  · rfl
/-! production -/
def gm_np (G : gm_G) (n bb : Nat) : gm_G := (gm_n G + 1, ud (gm_r G) (gm_n G) n, ud (gm_l G) (gm_n G) 0, gm_s G, gm_o G, ud (gm_k G) (gm_n G) bb)
theorem np_ok {G : gm_G} {n bb : Nat} (hG : gm_ok G) (h14 : gm_n G < 14) (hn : n < 6) (hb : bb ≤ 1) : gm_ok (gm_np G n bb) := by
  obtain ⟨a1, a2, a3, a4, a5, a6⟩ := hG
  have n14 : (14 : Nat) ≠ gm_n G := by omega
  refine ⟨h14, fun p hp => ?_, (ud_n n14).trans a3, (ud_n n14).trans a4, a5, (ud_n n14).trans a6⟩
  have hp : p < gm_n G + 1 := hp
  show ud (gm_r G) (gm_n G) n p < 6 ∧ ud (gm_l G) (gm_n G) 0 p ≤ 4 ∧ ud (gm_k G) (gm_n G) bb p ≤ 1 ∧ ∀ m, m < ud (gm_l G) (gm_n G) 0 p → gm_s G p m < 16 ∧ (gm_s G p m < 10 → gm_o G p m < 4)
  rcases Classical.em (p = gm_n G) with e | e
  · subst e
    rw [ud_s, ud_s, ud_s]
    exact ⟨hn, by omega, hb, fun m hm => by omega⟩
  · rw [ud_n e, ud_n e, ud_n e]
    exact a2 p (by omega)
theorem np_x {G : gm_G} {n bb : Nat} (hG : gm_ok G) (h14 : gm_n G < 14) {c : Int32} {A1 A2 A3 A4 A5 : Nat → Int32} (h : xg_ok G c A1 A2 A3 A4 A5) : xg_ok (gm_np G n bb) (nI (gm_n G + 1)) (upd A1 (gm_n G) (nI n)) (upd A2 (gm_n G) (nI bb)) (upd A3 (gm_n G) 0) A4 A5 := by
  refine ⟨rfl, fun p hp => ?_⟩
  show upd A1 (gm_n G) (nI n) p = nI (ud (gm_r G) (gm_n G) n p) ∧ upd A2 (gm_n G) (nI bb) p = nI (ud (gm_k G) (gm_n G) bb p) ∧ upd A3 (gm_n G) 0 p = nI (ud (gm_l G) (gm_n G) 0 p) ∧ ∀ m, m < ud (gm_l G) (gm_n G) 0 p → A4 (p * 4 + m) = nI (gm_s G p m) ∧ (gm_s G p m < 10 → A5 (p * 4 + m) = nI (gm_o G p m))
  rcases Classical.em (p = gm_n G) with e | e
  · subst e
    rw [ud_s, ud_s, ud_s, pk_us, pk_us, pk_us]
    exact ⟨rfl, rfl, rfl, fun m hm => by omega⟩
  · rw [ud_n e, ud_n e, ud_n e, pk_un e, pk_un e, pk_un e]
    have hp : p < gm_n G + 1 ∨ p = 14 := hp
    exact h.2 p (hp.elim (fun z => Or.inl (by omega)) Or.inr)
theorem np_y {G : gm_G} {n bb : Nat} {c : Int32} {A1 A2 A3 A4 A5 : Nat → Int32} (h : yg_ok G c A1 A2 A3 A4 A5) : yg_ok (gm_np G n bb) (nI (gm_n G + 1)) (upd A1 (gm_n G) (nI n)) (upd A2 (gm_n G) (nI bb)) (upd A3 (gm_n G) 0) A4 A5 := by
  refine ⟨rfl, fun p hp => ?_⟩
  show upd A1 (gm_n G) (nI n) p = nI (ud (gm_r G) (gm_n G) n p) ∧ upd A2 (gm_n G) (nI bb) p = nI (ud (gm_k G) (gm_n G) bb p) ∧ upd A3 (gm_n G) 0 p = nI (ud (gm_l G) (gm_n G) 0 p) ∧ ∀ m, m < ud (gm_l G) (gm_n G) 0 p → A4 (p * 4 + m) = nI (gm_s G p m) ∧ (gm_s G p m < 10 → A5 (p * 4 + m) = nI (gm_o G p m))
  have hp : p < gm_n G + 1 := hp
  rcases Classical.em (p = gm_n G) with e | e
  · subst e
    rw [ud_s, ud_s, ud_s, pk_us, pk_us, pk_us]
    exact ⟨rfl, rfl, rfl, fun m hm => by omega⟩
  · rw [ud_n e, ud_n e, ud_n e, pk_un e, pk_un e, pk_un e]
    exact h.2 p (by omega)
theorem i_vc_production {k : Nat} {u : SX} {v : SY} (I : i_Rel k u v) (hk : k + 5 ≤ 2560) (v1 : Int32) (v2 : Int32) : wpX_production (fun r u' => wpY_production (fun r' v' => r' = r ∧ i_Rel (k + 5) u' v') v v1 (lw_bz v2)) u v1 (lw_bz v2) := by
  have I0 := I
  obtain ⟨b, G, L, K, V, hp, hX, hY⟩ := I
  obtain ⟨f_built, f_productionCount, f_depth, a_ruleOf, a_marked, a_symbolCount, a_symbols, a_roles, a_derives, a_first, a_follow, a_textLength, a_kindAt, a_valueAt, a_failsAt, a_expectedAt, a_roleAt, a_scopeAt, a_openProduction, a_openNext, a_openStart, a_targetBefore⟩ := u
  obtain ⟨g_np, g_built, g_some, g_empty, g_wn, g_nt, b_pRule, b_pScope, b_pLen, b_sym, b_role, b_first, b_follow, b_kind, b_val, b_len, b_word, b_reach, b_beyond, b_way, b_known, b_bad, b_part, b_scopes, b_inner, b_tRule, b_tFrom, b_tTo, b_before⟩ := v
  obtain ⟨x1, x2, x3, x4, x5⟩ := hX
  obtain ⟨y1, y2, y3, y4⟩ := hY
  have same : i_Rel (k + 5) (f_built, f_productionCount, f_depth, a_ruleOf, a_marked, a_symbolCount, a_symbols, a_roles, a_derives, a_first, a_follow, a_textLength, a_kindAt, a_valueAt, a_failsAt, a_expectedAt, a_roleAt, a_scopeAt, a_openProduction, a_openNext, a_openStart, a_targetBefore) (g_np, g_built, g_some, g_empty, g_wn, g_nt, b_pRule, b_pScope, b_pLen, b_sym, b_role, b_first, b_follow, b_kind, b_val, b_len, b_word, b_reach, b_beyond, b_way, b_known, b_bad, b_part, b_scopes, b_inner, b_tRule, b_tFrom, b_tTo, b_before) := I0
  have h14 := hp.1.1
  unfold wpX_production wpY_production
  dsimp only
  cases b with
  | true => exact br_f (by rw [x1]; decide) (br_f (by rw [y1]; decide) ⟨rfl, same⟩)
  | false =>
    refine br_t x1 ?_
    rcases pk_ix v1 (n := 6) (by omega) with h | h | ⟨n, hn, e⟩
    · exact br_t h (br_t y1 (br_t h ⟨rfl, same⟩))
    · have h0 : ¬ v1 < 0 := fun z => Int32.lt_irrefl (Int32.lt_of_lt_of_le z (Int32.le_trans (by decide) h))
      exact br_f h0 (br_t h (br_t y1 (br_f h0 (br_t (Int32.lt_of_lt_of_le (by decide) h) ⟨rfl, same⟩))))
    · subst e
      refine br_f (nI_pos (by omega)) (br_f (nI_ge (b := 6) hn (by omega)) ?_)
      rcases Nat.lt_or_ge (gm_n G) 14 with z | z
      · obtain ⟨bb, hb, eb⟩ : ∃ bb, bb ≤ 1 ∧ lw_bz v2 = nI bb := by
          rcases lw_bz_01 v2 with q | q
          · exact ⟨0, by omega, q⟩
          · exact ⟨1, by omega, q⟩
        have vb : vp_nar .boolean (nI bb) = nI bb := by
          rcases Nat.lt_or_ge bb 1 with q | q
          · have e : bb = 0 := by omega
            subst e; rfl
          · have e : bb = 1 := by omega
            subst e; rfl
        have c1 : (nI (gm_n G)).toNatClampNeg = gm_n G := nI_clamp (by omega)
        rw [x2.1, y2.1, eb, vb, c1]
        have i1 : vp_in (nI (gm_n G)) 15 := vp_in_nI (by omega) (by omega)
        have i2 : vp_in (nI (gm_n G)) 14 := vp_in_nI (by omega) (by omega)
        refine br_t (nI_lt (b := 14) z (by omega)) ⟨i1, nm_e ⟨i1, nm_e ⟨i1, nm_e (nm_r (nI_1 _) ?_)⟩⟩⟩
        refine br_t y1 (br_f (nI_pos (by omega)) (br_f (nI_nlt (a := 5) (b := n) (by omega) (by omega)) (br_f (fun q => ?_) ⟨i2, nm_r (congrArg _ (show vp_nar .byte ((nI n).toInt8.toInt32) = nI n from by rw [ba_nb _ (by omega), ba_vb (by omega)])) ⟨i2, nm_e ⟨i2, nm_r (congrArg _ (show vp_nar .byte 0 = 0 from ba_vb (k := 0) (by omega))) (nm_r (nI_1 _) ⟨rfl, ?_⟩)⟩⟩⟩)))
        · have := (nI_eq (a := gm_n G) (b := 14) (by omega) (by omega)).mp q
          omega
        · exact ⟨false, gm_np G n bb, L, K, V, ⟨np_ok hp.1 z hn hb, hp.2.1, (fun h => nomatch h), hp.2.2.2⟩, ⟨x1, np_x hp.1 z x2, x3, (fun h => nomatch h), x5⟩, ⟨y1, np_y y2, y3, fun f hf => (y4 f hf).elim Or.inl (fun q => nomatch q.1)⟩⟩
      · have e14 : gm_n G = 14 := by omega
        refine br_f (by rw [x2.1, e14]; decide) (br_t y1 (br_f (nI_pos (by omega)) (br_f (nI_nlt (a := 5) (b := n) (by omega) (by omega)) (br_t (by rw [y2.1, e14]; rfl) ⟨rfl, same⟩))))
/-! symbol -/
def gm_sp (G : gm_G) (s r : Nat) : gm_G := (gm_n G, gm_r G, ud (gm_l G) (gm_n G - 1) (gm_l G (gm_n G - 1) + 1), fun p m => if p = gm_n G - 1 ∧ m = gm_l G (gm_n G - 1) then s else gm_s G p m, fun p m => if p = gm_n G - 1 ∧ m = gm_l G (gm_n G - 1) then r else gm_o G p m, gm_k G)
theorem sp_ok {G : gm_G} {s r : Nat} (hG : gm_ok G) (h0 : 1 ≤ gm_n G) (hl : gm_l G (gm_n G - 1) < 4) (hs : s < 16) (hr : s < 10 → r < 4) : gm_ok (gm_sp G s r) := by
  obtain ⟨a1, a2, a3, a4, a5, a6⟩ := hG
  have n14 : (14 : Nat) ≠ gm_n G - 1 := by omega
  refine ⟨a1, fun p hp => ?_, a3, (ud_n n14).trans a4, (if_neg (fun z => n14 z.1)).trans a5, a6⟩
  have hp : p < gm_n G := hp
  obtain ⟨b1, b2, b3, b4⟩ := a2 p hp
  show gm_r G p < 6 ∧ ud (gm_l G) (gm_n G - 1) (gm_l G (gm_n G - 1) + 1) p ≤ 4 ∧ gm_k G p ≤ 1 ∧ ∀ m, m < ud (gm_l G) (gm_n G - 1) (gm_l G (gm_n G - 1) + 1) p → (if p = gm_n G - 1 ∧ m = gm_l G (gm_n G - 1) then s else gm_s G p m) < 16 ∧ ((if p = gm_n G - 1 ∧ m = gm_l G (gm_n G - 1) then s else gm_s G p m) < 10 → (if p = gm_n G - 1 ∧ m = gm_l G (gm_n G - 1) then r else gm_o G p m) < 4)
  rcases Classical.em (p = gm_n G - 1) with e | e
  · subst e
    rw [ud_s]
    refine ⟨b1, by omega, b3, fun m hm => ?_⟩
    rcases Classical.em (m = gm_l G (gm_n G - 1)) with q | q
    · rw [if_pos ⟨rfl, q⟩, if_pos ⟨rfl, q⟩]
      exact ⟨hs, hr⟩
    · rw [if_neg (fun z => q z.2), if_neg (fun z => q z.2)]
      exact b4 m (by omega)
  · rw [ud_n e]
    refine ⟨b1, b2, b3, fun m hm => ?_⟩
    rw [if_neg (fun z => e z.1), if_neg (fun z => e z.1)]
    exact b4 m hm
theorem sp_x {G : gm_G} {s r : Nat} (hG : gm_ok G) (h0 : 1 ≤ gm_n G) (hl : gm_l G (gm_n G - 1) < 4) {c vr : Int32} {A1 A2 A3 A4 A5 : Nat → Int32} (hr : s < 10 → vr = nI r) (h : xg_ok G c A1 A2 A3 A4 A5) : xg_ok (gm_sp G s r) c A1 A2 (upd A3 (gm_n G - 1) (nI (gm_l G (gm_n G - 1) + 1))) (upd A4 ((gm_n G - 1) * 4 + gm_l G (gm_n G - 1)) (nI s)) (upd A5 ((gm_n G - 1) * 4 + gm_l G (gm_n G - 1)) vr) := by
  refine ⟨h.1, fun p hp => ?_⟩
  obtain ⟨b1, b2, b3, b4⟩ := h.2 p hp
  have hl4 := (gm_vs hG hp).1
  show A1 p = nI (gm_r G p) ∧ A2 p = nI (gm_k G p) ∧ upd A3 (gm_n G - 1) (nI (gm_l G (gm_n G - 1) + 1)) p = nI (ud (gm_l G) (gm_n G - 1) (gm_l G (gm_n G - 1) + 1) p) ∧ ∀ m, m < ud (gm_l G) (gm_n G - 1) (gm_l G (gm_n G - 1) + 1) p → upd A4 ((gm_n G - 1) * 4 + gm_l G (gm_n G - 1)) (nI s) (p * 4 + m) = nI (if p = gm_n G - 1 ∧ m = gm_l G (gm_n G - 1) then s else gm_s G p m) ∧ ((if p = gm_n G - 1 ∧ m = gm_l G (gm_n G - 1) then s else gm_s G p m) < 10 → upd A5 ((gm_n G - 1) * 4 + gm_l G (gm_n G - 1)) vr (p * 4 + m) = nI (if p = gm_n G - 1 ∧ m = gm_l G (gm_n G - 1) then r else gm_o G p m))
  rcases Classical.em (p = gm_n G - 1) with e | e
  · subst e
    rw [ud_s, pk_us]
    refine ⟨b1, b2, rfl, fun m hm => ?_⟩
    rcases Classical.em (m = gm_l G (gm_n G - 1)) with q | q
    · subst q
      rw [if_pos ⟨rfl, rfl⟩, if_pos ⟨rfl, rfl⟩, pk_us, pk_us]
      exact ⟨rfl, hr⟩
    · rw [if_neg (fun z => q z.2), if_neg (fun z => q z.2), pk_un (by omega), pk_un (by omega)]
      exact b4 m (by omega)
  · rw [ud_n e, pk_un e]
    refine ⟨b1, b2, b3, fun m hm => ?_⟩
    rw [if_neg (fun z => e z.1), if_neg (fun z => e z.1), pk_un (by omega), pk_un (by omega)]
    exact b4 m hm
theorem sp_y {G : gm_G} {s r : Nat} (hG : gm_ok G) (h0 : 1 ≤ gm_n G) (hl : gm_l G (gm_n G - 1) < 4) {c vr : Int32} {A1 A2 A3 A4 A5 : Nat → Int32} (hr : s < 10 → vr = nI r) (h : yg_ok G c A1 A2 A3 A4 A5) : yg_ok (gm_sp G s r) c A1 A2 (upd A3 (gm_n G - 1) (nI (gm_l G (gm_n G - 1) + 1))) (upd A4 ((gm_n G - 1) * 4 + gm_l G (gm_n G - 1)) (nI s)) (upd A5 ((gm_n G - 1) * 4 + gm_l G (gm_n G - 1)) vr) := by
  refine ⟨h.1, fun p hp => ?_⟩
  have hp : p < gm_n G := hp
  obtain ⟨b1, b2, b3, b4⟩ := h.2 p hp
  have hl4 := (gm_p0 hG hp).2.2.1
  show A1 p = nI (gm_r G p) ∧ A2 p = nI (gm_k G p) ∧ upd A3 (gm_n G - 1) (nI (gm_l G (gm_n G - 1) + 1)) p = nI (ud (gm_l G) (gm_n G - 1) (gm_l G (gm_n G - 1) + 1) p) ∧ ∀ m, m < ud (gm_l G) (gm_n G - 1) (gm_l G (gm_n G - 1) + 1) p → upd A4 ((gm_n G - 1) * 4 + gm_l G (gm_n G - 1)) (nI s) (p * 4 + m) = nI (if p = gm_n G - 1 ∧ m = gm_l G (gm_n G - 1) then s else gm_s G p m) ∧ ((if p = gm_n G - 1 ∧ m = gm_l G (gm_n G - 1) then s else gm_s G p m) < 10 → upd A5 ((gm_n G - 1) * 4 + gm_l G (gm_n G - 1)) vr (p * 4 + m) = nI (if p = gm_n G - 1 ∧ m = gm_l G (gm_n G - 1) then r else gm_o G p m))
  rcases Classical.em (p = gm_n G - 1) with e | e
  · subst e
    rw [ud_s, pk_us]
    refine ⟨b1, b2, rfl, fun m hm => ?_⟩
    rcases Classical.em (m = gm_l G (gm_n G - 1)) with q | q
    · subst q
      rw [if_pos ⟨rfl, rfl⟩, if_pos ⟨rfl, rfl⟩, pk_us, pk_us]
      exact ⟨rfl, hr⟩
    · rw [if_neg (fun z => q z.2), if_neg (fun z => q z.2), pk_un (by omega), pk_un (by omega)]
      exact b4 m (by omega)
  · rw [ud_n e, pk_un e]
    refine ⟨b1, b2, b3, fun m hm => ?_⟩
    rw [if_neg (fun z => e z.1), if_neg (fun z => e z.1), pk_un (by omega), pk_un (by omega)]
    exact b4 m hm
def sy_ok (b : Bool) (G : gm_G) (v1 v2 : Int32) : Prop := b = false ∧ 1 ≤ gm_n G ∧ gm_l G (gm_n G - 1) < 4 ∧ ∃ s, s < 16 ∧ v1 = nI s ∧ (s < 10 → ∃ r, r < 4 ∧ v2 = nI r)
section
variable {f_built f_productionCount f_depth : Int32} {a_ruleOf a_marked a_symbolCount a_symbols a_roles a_derives a_first a_follow a_textLength a_kindAt a_valueAt a_failsAt a_expectedAt a_roleAt a_scopeAt a_openProduction a_openNext a_openStart a_targetBefore : Nat → Int32} {G : gm_G} {b : Bool}
theorem xm_sym43 (hG : gm_ok G) (hx : xg_ok G f_productionCount a_ruleOf a_marked a_symbolCount a_symbols a_roles) (h0 : 1 ≤ gm_n G) (v1 v2 : Int32) (post : Int32 → SX → Prop) (hP0 : ¬ gm_l G (gm_n G - 1) < 4 → post 0 (f_built, f_productionCount, f_depth, a_ruleOf, a_marked, a_symbolCount, a_symbols, a_roles, a_derives, a_first, a_follow, a_textLength, a_kindAt, a_valueAt, a_failsAt, a_expectedAt, a_roleAt, a_scopeAt, a_openProduction, a_openNext, a_openStart, a_targetBefore)) (hP1 : gm_l G (gm_n G - 1) < 4 → post 1 (f_built, f_productionCount, f_depth, a_ruleOf, a_marked, upd a_symbolCount (gm_n G - 1) (nI (gm_l G (gm_n G - 1) + 1)), upd a_symbols ((gm_n G - 1) * 4 + gm_l G (gm_n G - 1)) v1, upd a_roles ((gm_n G - 1) * 4 + gm_l G (gm_n G - 1)) v2, a_derives, a_first, a_follow, a_textLength, a_kindAt, a_valueAt, a_failsAt, a_expectedAt, a_roleAt, a_scopeAt, a_openProduction, a_openNext, a_openStart, a_targetBefore)) : wX_symbol_43 post v1 v2 f_built f_productionCount f_depth a_ruleOf a_marked a_symbolCount a_symbols a_roles a_derives a_first a_follow a_textLength a_kindAt a_valueAt a_failsAt a_expectedAt a_roleAt a_scopeAt a_openProduction a_openNext a_openStart a_targetBefore := by
  have hv : gm_n G - 1 < gm_n G := by omega
  obtain ⟨p14, p6, pl, ps⟩ := gm_p0 hG hv
  have c1 : (nI (gm_n G - 1)).toNatClampNeg = gm_n G - 1 := nI_clamp (by omega)
  have i1 : vp_in (nI (gm_n G - 1)) 15 := vp_in_nI (by omega) (by omega)
  unfold wX_symbol_43
  refine nm_r (show f_productionCount - 1 = nI (gm_n G - 1) from by rw [hx.1]; exact ba_m1 h0) ?_
  rw [c1]
  refine ⟨i1, nm_r (hx.2 _ (Or.inl hv)).2.2.1 ?_⟩
  refine pk_lt (gm_l G (gm_n G - 1)) 4 (fun z => ?_) (fun z => hP0 (by omega))
  have c2 : (nI ((gm_n G - 1) * 4 + gm_l G (gm_n G - 1))).toNatClampNeg = (gm_n G - 1) * 4 + gm_l G (gm_n G - 1) := nI_clamp (by omega)
  have i2 : vp_in (nI ((gm_n G - 1) * 4 + gm_l G (gm_n G - 1))) 60 := vp_in_nI (by omega) (by omega)
  rw [ba_x4, c2, nI_1]
  exact ⟨i2, nm_e ⟨i2, nm_e ⟨i1, nm_e (hP1 z)⟩⟩⟩
theorem xm_symbol (hG : gm_ok G) (hb : f_built = rb b) (hx : xg_ok G f_productionCount a_ruleOf a_marked a_symbolCount a_symbols a_roles) (v1 v2 : Int32) (post : Int32 → SX → Prop) (hP0 : ¬ sy_ok b G v1 v2 → post 0 (f_built, f_productionCount, f_depth, a_ruleOf, a_marked, a_symbolCount, a_symbols, a_roles, a_derives, a_first, a_follow, a_textLength, a_kindAt, a_valueAt, a_failsAt, a_expectedAt, a_roleAt, a_scopeAt, a_openProduction, a_openNext, a_openStart, a_targetBefore)) (hP1 : sy_ok b G v1 v2 → post 1 (f_built, f_productionCount, f_depth, a_ruleOf, a_marked, upd a_symbolCount (gm_n G - 1) (nI (gm_l G (gm_n G - 1) + 1)), upd a_symbols ((gm_n G - 1) * 4 + gm_l G (gm_n G - 1)) v1, upd a_roles ((gm_n G - 1) * 4 + gm_l G (gm_n G - 1)) v2, a_derives, a_first, a_follow, a_textLength, a_kindAt, a_valueAt, a_failsAt, a_expectedAt, a_roleAt, a_scopeAt, a_openProduction, a_openNext, a_openStart, a_targetBefore)) : wpX_symbol post (f_built, f_productionCount, f_depth, a_ruleOf, a_marked, a_symbolCount, a_symbols, a_roles, a_derives, a_first, a_follow, a_textLength, a_kindAt, a_valueAt, a_failsAt, a_expectedAt, a_roleAt, a_scopeAt, a_openProduction, a_openNext, a_openStart, a_targetBefore) v1 v2 := by
  have h14 := hG.1
  unfold wpX_symbol
  dsimp only
  refine br_c (fun h1 => br_c (fun h2 => hP0 (fun ⟨_, z, _⟩ => ?_)) (fun h2 => br_c (fun h3 => hP0 (fun ⟨_, _, _, s, z1, z2, _⟩ => ?_)) (fun h3 => br_c (fun h4 => br_c (fun h5 => ?_) (fun h5 => br_c (fun h6 => hP0 (fun ⟨_, _, _, s, z1, z2, z3⟩ => ?_)) (fun h6 => br_c (fun h7 => ?_) (fun h7 => hP0 (fun ⟨_, _, _, s, z1, z2, z3⟩ => ?_))))) (fun h4 => hP0 (fun ⟨_, _, _, s, z1, z2, _⟩ => ?_))))) (fun h1 => hP0 (fun ⟨z, _⟩ => ?_))
  · rw [hx.1] at h2
    exact nI_ne0 z (by omega) h2
  · subst z2; exact nI_pos (by omega) h3
  · have hbf : b = false := by
      cases b with
      | false => rfl
      | true => rw [hb] at h1; exact absurd h1 (by decide)
    have hn : 1 ≤ gm_n G := by
      rcases Nat.eq_zero_or_pos (gm_n G) with z | z
      · rw [hx.1, z] at h2; exact absurd rfl h2
      · exact z
    obtain ⟨s, s1, s2⟩ := ba_ix (n := 16) (by omega) h3 (ba_lp h4)
    subst s2
    have s10 : ¬ s < 10 := fun z => nI_ge (b := 10) z (by omega) h5
    exact xm_sym43 hG hx hn _ v2 post (fun z => hP0 (fun y => z y.2.2.1)) (fun z => hP1 ⟨hbf, hn, z, s, s1, rfl, fun y => absurd y s10⟩)
  · subst z2
    have s10 : s < 10 := by
      rcases Nat.lt_or_ge s 10 with y | y
      · exact y
      · exact absurd (nI_le (a := 10) y (by omega)) h5
    obtain ⟨r, r1, r2⟩ := z3 s10
    subst r2; exact nI_pos (by omega) h6
  · have hbf : b = false := by
      cases b with
      | false => rfl
      | true => rw [hb] at h1; exact absurd h1 (by decide)
    have hn : 1 ≤ gm_n G := by
      rcases Nat.eq_zero_or_pos (gm_n G) with z | z
      · rw [hx.1, z] at h2; exact absurd rfl h2
      · exact z
    obtain ⟨s, s1, s2⟩ := ba_ix (n := 16) (by omega) h3 (ba_lp h4)
    obtain ⟨r, r1, r2⟩ := ba_ix (n := 4) (by omega) h6 (ba_lp h7)
    exact xm_sym43 hG hx hn _ v2 post (fun z => hP0 (fun y => z y.2.2.1)) (fun z => hP1 ⟨hbf, hn, z, s, s1, s2, fun _ => ⟨r, r1, r2⟩⟩)
  · subst z2
    have s10 : s < 10 := by
      rcases Nat.lt_or_ge s 10 with y | y
      · exact y
      · exact absurd (nI_le (a := 10) y (by omega)) h5
    obtain ⟨r, r1, r2⟩ := z3 s10
    subst r2; exact h7 (nI_lt (b := 4) r1 (by omega))
  · subst z2; exact h4 (nI_lt (b := 16) z1 (by omega))
  · subst z; exact h1 hb
end
section
variable {f_np f_built f_some f_empty f_wn f_nt : Int32} {a_pRule a_pScope a_pLen a_sym a_role a_first a_follow a_kind a_val a_len a_word a_reach a_beyond a_way a_known a_bad a_part a_scopes a_inner a_tRule a_tFrom a_tTo a_before : Nat → Int32} {G : gm_G} {b : Bool}
theorem ym_symbol0 (hG : gm_ok G) (hb : f_built = rb b) (hy : yg_ok G f_np a_pRule a_pScope a_pLen a_sym a_role) (v1 v2 : Int32) (hn : ¬ sy_ok b G v1 v2) (post : Int32 → SY → Prop) (hP : post 0 (f_np, f_built, f_some, f_empty, f_wn, f_nt, a_pRule, a_pScope, a_pLen, a_sym, a_role, a_first, a_follow, a_kind, a_val, a_len, a_word, a_reach, a_beyond, a_way, a_known, a_bad, a_part, a_scopes, a_inner, a_tRule, a_tFrom, a_tTo, a_before)) : wpY_symbol post (f_np, f_built, f_some, f_empty, f_wn, f_nt, a_pRule, a_pScope, a_pLen, a_sym, a_role, a_first, a_follow, a_kind, a_val, a_len, a_word, a_reach, a_beyond, a_way, a_known, a_bad, a_part, a_scopes, a_inner, a_tRule, a_tFrom, a_tTo, a_before) v1 v2 := by
  have h14 := hG.1
  have key : ∀ A : Prop, ¬ f_np = 0 → ¬ (1 ≤ gm_n G) → A := fun A h z => by
    exfalso
    rw [hy.1, show gm_n G = 0 from by omega] at h
    exact h rfl
  unfold wpY_symbol
  dsimp only
  refine br_c (fun h1 => br_c (fun h2 => hP) (fun h2 => ?_)) (fun _ => hP)
  rcases Nat.eq_zero_or_pos (gm_n G) with z | z
  · exact key _ h2 (by omega)
  · have hv : gm_n G - 1 < gm_n G := by omega
    obtain ⟨p14, p6, pl, ps⟩ := gm_p0 hG hv
    have c1 : (nI (gm_n G - 1)).toNatClampNeg = gm_n G - 1 := nI_clamp (by omega)
    rw [show f_np - 1 = nI (gm_n G - 1) from by rw [hy.1]; exact ba_m1 z, c1, (hy.2 _ hv).2.2.1]
    have hbf : b = false := by
      cases b with
      | false => rfl
      | true => rw [hb] at h1; exact absurd h1 (by decide)
    refine ⟨vp_in_nI (by omega) (by omega), pk_eq (gm_l G (gm_n G - 1)) 4 (fun _ => hP) (fun h3 => br_c (fun _ => hP) (fun h4 => br_c (fun _ => hP) (fun h5 => br_c (fun h6 => ?_) (fun h6 => br_c (fun _ => hP) (fun h7 => br_c (fun h8 => ?_) (fun _ => hP))))))⟩
    · exfalso
      obtain ⟨s, s1, s2⟩ := ba_ix (v := v1) (n := 16) (by omega) h4 (fun q => h5 (Int32.lt_of_lt_of_le (by decide) q))
      subst s2
      exact hn ⟨hbf, z, by omega, s, s1, rfl, fun y => absurd h6 (nI_ge (b := 10) y (by omega))⟩
    · exfalso
      obtain ⟨s, s1, s2⟩ := ba_ix (v := v1) (n := 16) (by omega) h4 (fun q => h5 (Int32.lt_of_lt_of_le (by decide) q))
      obtain ⟨r, r1, r2⟩ := ba_ix (v := v2) (n := 4) (by omega) h7 (fun q => Int32.lt_irrefl (Int32.lt_of_lt_of_le (show (3 : Int32) < 4 from by decide) (Int32.le_trans q h8)))
      exact hn ⟨hbf, z, by omega, s, s1, s2, fun _ => ⟨r, r1, r2⟩⟩
theorem ym_symbol1 (hG : gm_ok G) (hb : f_built = 0) (hy : yg_ok G f_np a_pRule a_pScope a_pLen a_sym a_role) (h1 : 1 ≤ gm_n G) (hl : gm_l G (gm_n G - 1) < 4) {s : Nat} (hs : s < 16) {v2 : Int32} (hr : s < 10 → ∃ r, r < 4 ∧ v2 = nI r) (post : Int32 → SY → Prop) (hP : post 1 (f_np, f_built, f_some, f_empty, f_wn, f_nt, a_pRule, a_pScope, upd a_pLen (gm_n G - 1) (nI (gm_l G (gm_n G - 1) + 1)), upd a_sym ((gm_n G - 1) * 4 + gm_l G (gm_n G - 1)) (nI s), upd a_role ((gm_n G - 1) * 4 + gm_l G (gm_n G - 1)) (vp_nar .byte v2.toInt8.toInt32), a_first, a_follow, a_kind, a_val, a_len, a_word, a_reach, a_beyond, a_way, a_known, a_bad, a_part, a_scopes, a_inner, a_tRule, a_tFrom, a_tTo, a_before)) : wpY_symbol post (f_np, f_built, f_some, f_empty, f_wn, f_nt, a_pRule, a_pScope, a_pLen, a_sym, a_role, a_first, a_follow, a_kind, a_val, a_len, a_word, a_reach, a_beyond, a_way, a_known, a_bad, a_part, a_scopes, a_inner, a_tRule, a_tFrom, a_tTo, a_before) (nI s) v2 := by
  have h14 := hG.1
  have hv : gm_n G - 1 < gm_n G := by omega
  obtain ⟨p14, p6, pl, ps⟩ := gm_p0 hG hv
  have c1 : (nI (gm_n G - 1)).toNatClampNeg = gm_n G - 1 := nI_clamp (by omega)
  have i1 : vp_in (nI (gm_n G - 1)) 14 := vp_in_nI (by omega) (by omega)
  have em : f_np - 1 = nI (gm_n G - 1) := by rw [hy.1]; exact ba_m1 h1
  have fin : wY_symbol_56 post (nI s) v2 f_np f_built f_some f_empty f_wn f_nt a_pRule a_pScope a_pLen a_sym a_role a_first a_follow a_kind a_val a_len a_word a_reach a_beyond a_way a_known a_bad a_part a_scopes a_inner a_tRule a_tFrom a_tTo a_before := by
    unfold wY_symbol_56
    have c2 : (nI ((gm_n G - 1) * 4 + gm_l G (gm_n G - 1))).toNatClampNeg = (gm_n G - 1) * 4 + gm_l G (gm_n G - 1) := nI_clamp (by omega)
    have i2 : vp_in (nI ((gm_n G - 1) * 4 + gm_l G (gm_n G - 1))) 56 := vp_in_nI (by omega) (by omega)
    rw [em, c1, (hy.2 _ hv).2.2.1, ba_4x, nI_1, ba_nb _ (by omega), ba_vb (by omega)]
    refine ⟨i1, i1, nm_e (nm_e ?_)⟩
    rw [c2, ba_nb _ (by omega), ba_vb (by omega)]
    exact ⟨i2, nm_e ⟨i2, nm_e hP⟩⟩
  unfold wpY_symbol
  dsimp only
  refine br_t hb (br_f (by rw [hy.1]; exact nI_ne0 h1 (by omega)) ?_)
  rw [em, c1, (hy.2 _ hv).2.2.1]
  refine ⟨i1, pk_eq (gm_l G (gm_n G - 1)) 4 (fun z => by omega) (fun _ => br_f (nI_pos (by omega)) (br_f (nI_nlt (a := 15) (b := s) (by omega) (by omega)) (pk_le 10 s (fun _ => fin) (fun z => ?_))))⟩
  obtain ⟨r, r1, r2⟩ := hr z
  subst r2
  exact br_f (nI_pos (by omega)) (br_t (nI_le (b := 3) (by omega) (by omega)) fin)
end
theorem i_vc_symbol {k : Nat} {u : SX} {v : SY} (I : i_Rel k u v) (hk : k + 5 ≤ 2560) (v1 : Int32) (v2 : Int32) : wpX_symbol (fun r u' => wpY_symbol (fun r' v' => r' = r ∧ i_Rel (k + 5) u' v') v v1 v2) u v1 v2 := by
  have I0 := I
  obtain ⟨b, G, L, K, V, hp, hX, hY⟩ := I
  obtain ⟨f_built, f_productionCount, f_depth, a_ruleOf, a_marked, a_symbolCount, a_symbols, a_roles, a_derives, a_first, a_follow, a_textLength, a_kindAt, a_valueAt, a_failsAt, a_expectedAt, a_roleAt, a_scopeAt, a_openProduction, a_openNext, a_openStart, a_targetBefore⟩ := u
  obtain ⟨g_np, g_built, g_some, g_empty, g_wn, g_nt, b_pRule, b_pScope, b_pLen, b_sym, b_role, b_first, b_follow, b_kind, b_val, b_len, b_word, b_reach, b_beyond, b_way, b_known, b_bad, b_part, b_scopes, b_inner, b_tRule, b_tFrom, b_tTo, b_before⟩ := v
  obtain ⟨x1, x2, x3, x4, x5⟩ := hX
  obtain ⟨y1, y2, y3, y4⟩ := hY
  refine xm_symbol hp.1 x1 x2 v1 v2 _ (fun hn => ym_symbol0 hp.1 y1 y2 v1 v2 hn _ ⟨rfl, I0⟩) (fun ⟨hb, h1, hl, s, hs, e, hr⟩ => ?_)
  subst hb e
  refine ym_symbol1 hp.1 y1 y2 h1 hl hs hr _ ⟨rfl, ?_⟩
  obtain ⟨r, hr4, hrv⟩ : ∃ r, (s < 10 → r < 4) ∧ (s < 10 → v2 = nI r) := by
    rcases Nat.lt_or_ge s 10 with z | z
    · obtain ⟨r, r1, r2⟩ := hr z
      exact ⟨r, fun _ => r1, fun _ => r2⟩
    · exact ⟨0, fun h => by omega, fun h => by omega⟩
  refine ⟨false, gm_sp G s r, L, K, V, ⟨sp_ok hp.1 h1 hl hs hr4, hp.2.1, (fun h => nomatch h), hp.2.2.2⟩, ⟨x1, sp_x hp.1 h1 hl hrv x2, x3, (fun h => nomatch h), x5⟩, ⟨y1, sp_y hp.1 h1 hl (fun z => ?_) y2, y3, fun f hf => (y4 f hf).elim Or.inl (fun q => nomatch q.1)⟩⟩
  have := hr4 z
  rw [hrv z, ba_nb _ (by omega), ba_vb (by omega)]
/-! build -/
theorem i_vc_build {k : Nat} {u : SX} {v : SY} (I : i_Rel k u v) (hk : k + 5 ≤ 2560) : wpX_build (fun r u' => wpY_build (fun r' v' => r' = r ∧ i_Rel (k + 5) u' v') v) u := by
  have I0 := I
  obtain ⟨b, G, L, K, V, hp, hX, hY⟩ := I
  cases b with
  | true =>
    refine xm_built hX _ ?_
    obtain ⟨f_np, f_built, f_some, f_empty, f_wn, f_nt, a_pRule, a_pScope, a_pLen, a_sym, a_role, a_first, a_follow, a_kind, a_val, a_len, a_word, a_reach, a_beyond, a_way, a_known, a_bad, a_part, a_scopes, a_inner, a_tRule, a_tFrom, a_tTo, a_before⟩ := v
    unfold wpY_build
    dsimp only
    exact br_f (by rw [hY.1]; decide) ⟨rfl, I0⟩
  | false =>
    refine xm_build hp.1 hp.2.1 hX _ (fun r b u' hr hu => ?_)
    obtain ⟨f_np, f_built, f_some, f_empty, f_wn, f_nt, a_pRule, a_pScope, a_pLen, a_sym, a_role, a_first, a_follow, a_kind, a_val, a_len, a_word, a_reach, a_beyond, a_way, a_known, a_bad, a_part, a_scopes, a_inner, a_tRule, a_tFrom, a_tTo, a_before⟩ := v
    obtain ⟨y1, y2, y3, y4⟩ := hY
    refine ym_build hp.1 y2 y1 _ (fun r' b' sm em F W hr' => ?_)
    obtain ⟨e1, e2⟩ := bd_u hr' hr
    subst e1 e2
    refine ⟨rfl, b', G, L, K, V, ⟨hp.1, hp.2.1, fun h => by subst h; exact bd_g hp.1 hr, fun _ => hp.2.2.2 rfl⟩, hu, ⟨rfl, y2, y3, fun f hf => (y4 f hf).elim Or.inl (fun q => nomatch q.1)⟩⟩
/-! restart -/
section
variable {f_built f_productionCount f_depth : Int32} {a_ruleOf a_marked a_symbolCount a_symbols a_roles a_derives a_first a_follow a_textLength a_kindAt a_valueAt a_failsAt a_expectedAt a_roleAt a_scopeAt a_openProduction a_openNext a_openStart a_targetBefore : Nat → Int32}
theorem xm_rs12 (post : SX → Prop) (hP : ∀ TL RO SC, (∀ f, f < 4 → TL f = 0) → (∀ x, x < 80 → RO x = 0) → post (f_built, f_productionCount, f_depth, a_ruleOf, a_marked, a_symbolCount, a_symbols, a_roles, a_derives, a_first, a_follow, TL, a_kindAt, a_valueAt, a_failsAt, a_expectedAt, RO, SC, a_openProduction, a_openNext, a_openStart, a_targetBefore)) :
    ∀ d k TL RO SC, k + d = 4 → (∀ f, f < k → TL f = 0) → (∀ x, x < k * 20 → RO x = 0) → wX_restart_12 post (d + 1) (nI k) f_built f_productionCount f_depth a_ruleOf a_marked a_symbolCount a_symbols a_roles a_derives a_first a_follow TL a_kindAt a_valueAt a_failsAt a_expectedAt RO SC a_openProduction a_openNext a_openStart a_targetBefore := by
  intro d
  induction d with
  | zero =>
    intro k TL RO SC hk h1 h2
    rw [wX_restart_12]
    dsimp only
    exact br_t (nI_le (a := 4) (by omega) (by omega)) (hP TL RO SC (fun f hf => h1 f (by omega)) (fun x hx => h2 x (by omega)))
  | succ d ih =>
    intro k TL RO SC hk h1 h2
    have c1 : (nI k).toNatClampNeg = k := nI_clamp (by omega)
    rw [wX_restart_12]
    dsimp only
    rw [c1]
    refine br_f (nI_ge (b := 4) (by omega) (by omega)) ⟨vp_in_nI (by omega) (by omega), nm_e (xp_cm (f := k) (by omega) _ (fun RO' SC' q1 q2 q3 => nm_r (nI_1 k) (ih (k + 1) _ RO' SC' (by omega) (fun f hf => ?_) (fun x hx => ?_))))⟩
    · rcases Classical.em (f = k) with e | e
      · subst e; exact pk_us
      · exact (pk_un e).trans (h1 f (by omega))
    · rcases Nat.lt_or_ge x (k * 20) with z | z
      · rw [q2 x (by omega)]; exact h2 x z
      · have := (q1 (x - k * 20) (by omega)).1
        rw [show k * 20 + (x - k * 20) = x from by omega] at this
        exact this
end
section
variable {f_np f_built f_some f_empty f_wn f_nt : Int32} {a_pRule a_pScope a_pLen a_sym a_role a_first a_follow a_kind a_val a_len a_word a_reach a_beyond a_way a_known a_bad a_part a_scopes a_inner a_tRule a_tFrom a_tTo a_before : Nat → Int32}
theorem ym_rs12 (post : SY → Prop) (hP : ∀ LE KN, (∀ f, f < 4 → LE f = 0 ∧ KN f = 0) → post (f_np, f_built, f_some, f_empty, f_wn, f_nt, a_pRule, a_pScope, a_pLen, a_sym, a_role, a_first, a_follow, a_kind, a_val, LE, a_word, a_reach, a_beyond, a_way, KN, a_bad, a_part, a_scopes, a_inner, a_tRule, a_tFrom, a_tTo, a_before)) :
    ∀ d k LE KN, k + d = 4 → (∀ f, f < k → LE f = 0 ∧ KN f = 0) → wY_restart_12 post f_np f_built f_some f_empty f_wn f_nt (d + 1) (nI k) a_pRule a_pScope a_pLen a_sym a_role a_first a_follow a_kind a_val LE a_word a_reach a_beyond a_way KN a_bad a_part a_scopes a_inner a_tRule a_tFrom a_tTo a_before := by
  intro d
  induction d with
  | zero =>
    intro k LE KN hk h1
    rw [wY_restart_12]
    dsimp only
    exact br_t (nI_le (a := 4) (by omega) (by omega)) (hP LE KN (fun f hf => h1 f (by omega)))
  | succ d ih =>
    intro k LE KN hk h1
    have c1 : (nI k).toNatClampNeg = k := nI_clamp (by omega)
    rw [wY_restart_12]
    dsimp only
    rw [c1]
    refine br_f (nI_ge (b := 4) (by omega) (by omega)) ⟨vp_in_nI (by omega) (by omega), nm_r (congrArg _ (show vp_nar .byte 0 = 0 from ba_vb (k := 0) (by omega))) ⟨vp_in_nI (by omega) (by omega), nm_r (congrArg _ ba_bool0) (nm_r (nI_1 k) (ih (k + 1) _ _ (by omega) (fun f hf => ?_)))⟩⟩
    rcases Classical.em (f = k) with e | e
    · subst e; rw [pk_us, pk_us]; exact ⟨rfl, rfl⟩
    · rw [pk_un e, pk_un e]; exact h1 f (by omega)
end
theorem i_vc_restart {k : Nat} {u : SX} {v : SY} (I : i_Rel k u v) (hk : k + 5 ≤ 2560) : wpX_restart (fun u' => wpY_restart (fun v' => i_Rel (k + 5) u' v') v) u := by
  obtain ⟨b, G, L, K, V, hp, hX, hY⟩ := I
  obtain ⟨f_built, f_productionCount, f_depth, a_ruleOf, a_marked, a_symbolCount, a_symbols, a_roles, a_derives, a_first, a_follow, a_textLength, a_kindAt, a_valueAt, a_failsAt, a_expectedAt, a_roleAt, a_scopeAt, a_openProduction, a_openNext, a_openStart, a_targetBefore⟩ := u
  obtain ⟨g_np, g_built, g_some, g_empty, g_wn, g_nt, b_pRule, b_pScope, b_pLen, b_sym, b_role, b_first, b_follow, b_kind, b_val, b_len, b_word, b_reach, b_beyond, b_way, b_known, b_bad, b_part, b_scopes, b_inner, b_tRule, b_tFrom, b_tTo, b_before⟩ := v
  obtain ⟨x1, x2, x3, x4, x5⟩ := hX
  obtain ⟨y1, y2, y3, y4⟩ := hY
  unfold wpX_restart wpY_restart
  dsimp only
  refine ⟨4 + 1, xm_rs12 (f_built := 0) (f_productionCount := 0) _ (fun TL RO SC a1 a2 => ⟨4 + 1, ym_rs12 (f_np := 0) (f_built := 0) _ (fun LE KN b1 => ?_) 4 0 b_len b_known (by omega) (fun f h => by omega)⟩) 4 0 a_textLength a_roleAt a_scopeAt (by omega) (fun f h => by omega) (fun x h => by omega)⟩
  obtain ⟨g1, g2, g3, g4, g5, g6⟩ := hp.1
  refine ⟨false, (0, gm_r G, gm_l G, gm_s G, gm_o G, gm_k G), fun _ => 0, K, V, ⟨⟨Nat.zero_le _, fun p h => absurd h (Nat.not_lt_zero _), g3, g4, g5, g6⟩, ⟨fun _ _ => Nat.zero_le _, hp.2.1.2⟩, (fun h => nomatch h), fun _ _ _ => rfl⟩, ⟨rfl, ⟨rfl, fun p h => ?_⟩, ⟨a1, x3.2⟩, (fun h => nomatch h), fun _ => a2⟩, ⟨rfl, ⟨rfl, fun p h => absurd h (Nat.not_lt_zero _)⟩, ⟨fun f hf => (b1 f hf).1, y3.2⟩, fun f hf => Or.inl (b1 f hf).2⟩⟩
  rcases h with h | h
  · exact absurd h (Nat.not_lt_zero _)
  · exact x2.2 p (Or.inr h)
end
section
/-! put, delete, token, errorAt, expected, scope -/
theorem tx_wg {L K L' K' : Nat → Nat} {g : Nat} (hL : L' g = L g) (hK : ∀ x, x < L g → K' (g * 20 + x) = K (g * 20 + x)) : tx_w L' K' g = tx_w L K g := by
  funext x
  unfold tx_w
  rw [hL]
  split
  · next h => exact hK x h
  · rfl
theorem rx_fg {G : gm_G} {L K L' K' : Nat → Nat} {g : Nat} (hL : L' g = L g) (hK : ∀ x, x < L g → K' (g * 20 + x) = K (g * 20 + x)) {FA EX RO SC : Nat → Int32} (h : rx_f G L K g FA EX RO SC) : rx_f G L' K' g FA EX RO SC := by
  unfold rx_f at h ⊢
  rw [tx_wg hL hK, hL]
  exact h
theorem ry_fg {G : gm_G} {L K L' K' : Nat → Nat} {g : Nat} (hL : L' g = L g) (hK : ∀ x, x < L g → K' (g * 20 + x) = K (g * 20 + x)) {BA PA IN SP : Nat → Int32} (h : ry_f G L K g BA PA IN SP) : ry_f G L' K' g BA PA IN SP := by
  unfold ry_f at h ⊢
  rw [tx_wg hL hK, hL]
  exact h
theorem xm_isf {v1 : Int32} (post : Int32 → Prop) (h0 : (¬ ∃ f, f < 4 ∧ v1 = nI f) → post 0) (h1 : ∀ f, f < 4 → v1 = nI f → post 1) : wpX_isFile post v1 := by
  unfold wpX_isFile
  refine br_c (fun h => h0 (fun ⟨f, a, b⟩ => ?_)) (fun h => br_c (fun h' => h0 (fun ⟨f, a, b⟩ => ?_)) (fun h' => ?_))
  · subst b; exact nI_pos (by omega) h
  · subst b; exact nI_ge (b := 4) a (by omega) h'
  · obtain ⟨f, a, b⟩ := ba_ix (n := 4) (by omega) h h'
    exact h1 f a b
theorem ym_isf {v : SY} {v1 : Int32} (post : Int32 → Prop) (h0 : (¬ ∃ f, f < 4 ∧ v1 = nI f) → post 0) (h1 : ∀ f, f < 4 → v1 = nI f → post 1) : wpY_isFile post v v1 := by
  obtain ⟨f_np, f_built, f_some, f_empty, f_wn, f_nt, a_pRule, a_pScope, a_pLen, a_sym, a_role, a_first, a_follow, a_kind, a_val, a_len, a_word, a_reach, a_beyond, a_way, a_known, a_bad, a_part, a_scopes, a_inner, a_tRule, a_tFrom, a_tTo, a_before⟩ := v
  unfold wpY_isFile
  dsimp only
  refine br_c (fun h => h0 (fun ⟨f, a, b⟩ => ?_)) (fun h => br_c (fun h' => h0 (fun ⟨f, a, b⟩ => ?_)) (fun h' => ?_))
  · subst b; exact nI_pos (by omega) h
  · subst b; exact nI_ge (b := 4) a (by omega) h'
  · obtain ⟨f, a, b⟩ := ba_ix (n := 4) (by omega) h h'
    exact h1 f a b
def tk_ok (L : Nat → Nat) (v1 v2 : Int32) : Prop := ∃ f x, f < 4 ∧ x < L f ∧ v1 = nI f ∧ v2 = nI x
section
variable {f_built f_productionCount f_depth : Int32} {a_ruleOf a_marked a_symbolCount a_symbols a_roles a_derives a_first a_follow a_textLength a_kindAt a_valueAt a_failsAt a_expectedAt a_roleAt a_scopeAt a_openProduction a_openNext a_openStart a_targetBefore : Nat → Int32} {G : gm_G} {L K V : Nat → Nat} {b : Bool}
theorem xm_tok (hT : tx_ok L K V) (hr : rx_t L K V a_textLength a_kindAt a_valueAt) {v1 v2 : Int32} (post : Int32 → Prop) (h0 : ¬ tk_ok L v1 v2 → post 0) (h1 : ∀ f x, f < 4 → x < L f → v1 = nI f → v2 = nI x → post 1) : wpX_isToken post (f_built, f_productionCount, f_depth, a_ruleOf, a_marked, a_symbolCount, a_symbols, a_roles, a_derives, a_first, a_follow, a_textLength, a_kindAt, a_valueAt, a_failsAt, a_expectedAt, a_roleAt, a_scopeAt, a_openProduction, a_openNext, a_openStart, a_targetBefore) v1 v2 := by
  unfold wpX_isToken
  dsimp only
  refine xm_isf _ (fun hn => br_t rfl (h0 (fun ⟨f, x, a, _, c, _⟩ => hn ⟨f, a, c⟩))) (fun f hf e => br_f (by decide) ?_)
  subst e
  have l := hT.1 f hf
  have cF : (nI f).toNatClampNeg = f := nI_clamp (by omega)
  rw [cF, hr.1 f hf]
  refine br_c (fun h => h0 (fun ⟨f', x, a, _, c, d⟩ => ?_)) (fun h => ⟨vp_in_nI (by omega) (by omega), br_c (fun h' => h0 (fun ⟨f', x, a, b, c, d⟩ => ?_)) (fun h' => ?_)⟩)
  · subst d
    have := hT.1 f' a
    exact nI_pos (by omega) h
  · subst d
    have e := (nI_eq (by omega) (by omega)).mp c
    subst e
    exact nI_ge b (by omega) h'
  · obtain ⟨x, x1, x2⟩ := ba_ix (n := L f) (by omega) h h'
    exact h1 f x hf x1 rfl x2
end
section
variable {f_np f_built f_some f_empty f_wn f_nt : Int32} {a_pRule a_pScope a_pLen a_sym a_role a_first a_follow a_kind a_val a_len a_word a_reach a_beyond a_way a_known a_bad a_part a_scopes a_inner a_tRule a_tFrom a_tTo a_before : Nat → Int32} {G : gm_G} {L K V : Nat → Nat} {b : Bool}
theorem ym_tok (hT : tx_ok L K V) (hr : rx_t L K V a_len a_kind a_val) {v1 v2 : Int32} {v : SY} {A B : Prop} (h0 : ¬ tk_ok L v1 v2 → A) (h1 : ∀ f x, f < 4 → x < L f → v1 = nI f → v2 = nI x → B) : wpY_isFile (fun r_1 => (r_1 = 0 → A) ∧ (¬ r_1 = 0 → (v2 < 0 → A) ∧ (¬ v2 < 0 → vp_in v1 4 ∧ (v2 < a_len v1.toNatClampNeg → B) ∧ (¬ v2 < a_len v1.toNatClampNeg → A)))) v v1 := by
  refine ym_isf _ (fun hn => br_t rfl (h0 (fun ⟨f, x, a, _, c, _⟩ => hn ⟨f, a, c⟩))) (fun f hf e => br_f (by decide) ?_)
  subst e
  have l := hT.1 f hf
  have cF : (nI f).toNatClampNeg = f := nI_clamp (by omega)
  rw [cF, hr.1 f hf]
  refine br_c (fun h => h0 (fun ⟨f', x, a, _, c, d⟩ => ?_)) (fun h => ⟨vp_in_nI (by omega) (by omega), br_c (fun h' => ?_) (fun h' => h0 (fun ⟨f', x, a, b, c, d⟩ => ?_))⟩)
  · subst d
    have := hT.1 f' a
    exact nI_pos (by omega) h
  · obtain ⟨x, x1, x2⟩ := ba_ix (n := L f) (by omega) h (ba_lp h')
    exact h1 f x hf x1 rfl x2
  · subst d
    have e := (nI_eq (by omega) (by omega)).mp c
    subst e
    exact h' (nI_lt b (by omega))
end
/-! token -/
theorem i_vc_token {k : Nat} {u : SX} {v : SY} (I : i_Rel k u v) (hk : k + 5 ≤ 2560) (v1 : Int32) (v2 : Int32) : wpX_token (fun r => wpY_token (fun r' => r' = r ∧ i_Rel (k + 5) u v) v v1 v2) u v1 v2 := by
  have I0 := I
  obtain ⟨b, G, L, K, V, hp, hX, hY⟩ := I
  obtain ⟨f_built, f_productionCount, f_depth, a_ruleOf, a_marked, a_symbolCount, a_symbols, a_roles, a_derives, a_first, a_follow, a_textLength, a_kindAt, a_valueAt, a_failsAt, a_expectedAt, a_roleAt, a_scopeAt, a_openProduction, a_openNext, a_openStart, a_targetBefore⟩ := u
  obtain ⟨g_np, g_built, g_some, g_empty, g_wn, g_nt, b_pRule, b_pScope, b_pLen, b_sym, b_role, b_first, b_follow, b_kind, b_val, b_len, b_word, b_reach, b_beyond, b_way, b_known, b_bad, b_part, b_scopes, b_inner, b_tRule, b_tFrom, b_tTo, b_before⟩ := v
  obtain ⟨x1, x2, x3, x4, x5⟩ := hX
  obtain ⟨y1, y2, y3, y4⟩ := hY
  unfold wpX_token wpY_token
  dsimp only
  refine xm_tok hp.2.1 x3 _ (fun hn => br_t rfl (ym_tok hp.2.1 y3 (fun _ => ⟨rfl, I0⟩) (fun f x a b c d => absurd ⟨f, x, a, b, c, d⟩ hn))) (fun f x hf hx e1 e2 => br_f (by decide) ?_)
  subst e1 e2
  have l := hp.2.1.1 f hf
  have cI : (nI (f * 20 + x)).toNatClampNeg = f * 20 + x := nI_clamp (by omega)
  have iI : vp_in (nI (f * 20 + x)) 80 := vp_in_nI (by omega) (by omega)
  refine nm_r (ba_x20 f x) ?_
  rw [cI]
  refine ⟨iI, iI, ym_tok hp.2.1 y3 (fun hn => absurd ⟨f, x, hf, hx, rfl, rfl⟩ hn) (fun f' x' a b c d => ?_)⟩
  rw [ba_20x, cI]
  refine ⟨iI, iI, ?_, I0⟩
  rw [(x3.2 _ (by omega)).1, (x3.2 _ (by omega)).2, (y3.2 _ (by omega)).1, (y3.2 _ (by omega)).2]
/-! put -/
def pt_ok (b : Bool) (L : Nat → Nat) (v1 v2 v3 v4 : Int32) : Prop := b = true ∧ ∃ f x c d, f < 4 ∧ x ≤ L f ∧ x < 20 ∧ c < 10 ∧ d < 16 ∧ v1 = nI f ∧ v2 = nI x ∧ v3 = nI c ∧ v4 = nI d
def pu_L (L : Nat → Nat) (f x : Nat) : Nat → Nat := if x = L f then ud L f (x + 1) else L
theorem pu_Lo {L : Nat → Nat} {f x g : Nat} (h : g ≠ f) : pu_L L f x g = L g := by
  unfold pu_L
  split
  · exact ud_n h
  · rfl
theorem pu_ok {L K V : Nat → Nat} {f x c d : Nat} (hT : tx_ok L K V) (hf : f < 4) (hx : x < 20) (hc : c < 10) (hd : d < 16) : tx_ok (pu_L L f x) (ud K (f * 20 + x) c) (ud V (f * 20 + x) d) := by
  refine ⟨fun g hg => ?_, fun y hy => ⟨?_, ?_⟩⟩
  · unfold pu_L
    split
    · unfold ud
      split
      · omega
      · exact hT.1 g hg
    · exact hT.1 g hg
  · unfold ud; split
    · exact hc
    · exact (hT.2 y hy).1
  · unfold ud; split
    · exact hd
    · exact (hT.2 y hy).2
theorem pu_t {L K V : Nat → Nat} {f x c d : Nat} {A1 A2 A3 : Nat → Int32} (h : rx_t L K V A1 A2 A3) : rx_t (pu_L L f x) (ud K (f * 20 + x) c) (ud V (f * 20 + x) d) (if x = L f then upd A1 f (nI (x + 1)) else A1) (upd A2 (f * 20 + x) (nI c)) (upd A3 (f * 20 + x) (nI d)) := by
  refine ⟨fun g hg => ?_, fun y hy => ⟨?_, ?_⟩⟩
  · unfold pu_L
    split
    · unfold ud; rw [ba_up]; split
      · rfl
      · exact h.1 g hg
    · exact h.1 g hg
  · unfold ud; rw [ba_up]; split
    · rfl
    · exact (h.2 y hy).1
  · unfold ud; rw [ba_up]; split
    · rfl
    · exact (h.2 y hy).2
section
variable {f_built f_productionCount f_depth : Int32} {a_ruleOf a_marked a_symbolCount a_symbols a_roles a_derives a_first a_follow a_textLength a_kindAt a_valueAt a_failsAt a_expectedAt a_roleAt a_scopeAt a_openProduction a_openNext a_openStart a_targetBefore : Nat → Int32} {G : gm_G} {L K V : Nat → Nat} {b : Bool}
theorem xm_put0 (hT : tx_ok L K V) (hb : f_built = rb b) (hr : rx_t L K V a_textLength a_kindAt a_valueAt) {v1 v2 v3 v4 : Int32} (hn : ¬ pt_ok b L v1 v2 v3 v4) (post : Int32 → SX → Prop) (hP : post 0 (f_built, f_productionCount, f_depth, a_ruleOf, a_marked, a_symbolCount, a_symbols, a_roles, a_derives, a_first, a_follow, a_textLength, a_kindAt, a_valueAt, a_failsAt, a_expectedAt, a_roleAt, a_scopeAt, a_openProduction, a_openNext, a_openStart, a_targetBefore)) : wpX_put post (f_built, f_productionCount, f_depth, a_ruleOf, a_marked, a_symbolCount, a_symbols, a_roles, a_derives, a_first, a_follow, a_textLength, a_kindAt, a_valueAt, a_failsAt, a_expectedAt, a_roleAt, a_scopeAt, a_openProduction, a_openNext, a_openStart, a_targetBefore) v1 v2 v3 v4 := by
  unfold wpX_put
  dsimp only
  refine br_c (fun _ => hP) (fun h1 => xm_isf _ (fun _ => br_t rfl hP) (fun f hf e => br_f (by decide) ?_))
  subst e
  have l := hT.1 f hf
  have cF : (nI f).toNatClampNeg = f := nI_clamp (by omega)
  rw [cF, hr.1 f hf]
  refine br_c (fun _ => hP) (fun h2 => ⟨vp_in_nI (by omega) (by omega), br_c (fun _ => hP) (fun h3 => br_c (fun h4 => br_c (fun _ => hP) (fun h5 => br_c (fun _ => hP) (fun h6 => br_c (fun _ => hP) (fun h7 => br_c (fun h8 => ?_) (fun _ => hP))))) (fun _ => hP))⟩)
  exfalso
  have hbt : b = true := by
    cases b with
    | true => rfl
    | false => rw [hb] at h1; exact absurd rfl h1
  obtain ⟨x, x1, x2⟩ := ba_ix (n := 20) (by omega) h2 (ba_lp h4)
  obtain ⟨c, c1, c2⟩ := ba_ix (n := 10) (by omega) h5 h6
  obtain ⟨d, d1, d2⟩ := ba_ix (n := 16) (by omega) h7 (ba_lp h8)
  refine hn ⟨hbt, f, x, c, d, hf, ?_, x1, c1, d1, rfl, x2, c2, d2⟩
  subst x2
  rcases Nat.lt_or_ge (L f) x with z | z
  · exact absurd (nI_lt z (by omega)) h3
  · exact z
theorem xm_put1 (hG : gm_gd G) (hT : tx_ok L K V) (hb : f_built = 1) (hx : xg_ok G f_productionCount a_ruleOf a_marked a_symbolCount a_symbols a_roles) (hr : rx_t L K V a_textLength a_kindAt a_valueAt) (hB : ∀ n, n < 6 → gm_ms (a_first n) (fun t => t ≤ 10 ∧ gm_FU G t n)) (hF : ∀ f, f < 4 → rx_f G L K f a_failsAt a_expectedAt a_roleAt a_scopeAt) {f x c d : Nat} (hf : f < 4) (hxl : x ≤ L f) (hx20 : x < 20) (hc : c < 10) (hd : d < 16) (post : Int32 → SX → Prop) (hP : ∀ u, rx_R true G (pu_L L f x) (ud K (f * 20 + x) c) (ud V (f * 20 + x) d) u → post 1 u) : wpX_put post (f_built, f_productionCount, f_depth, a_ruleOf, a_marked, a_symbolCount, a_symbols, a_roles, a_derives, a_first, a_follow, a_textLength, a_kindAt, a_valueAt, a_failsAt, a_expectedAt, a_roleAt, a_scopeAt, a_openProduction, a_openNext, a_openStart, a_targetBefore) (nI f) (nI x) (nI c) (nI d) := by
  have l := hT.1 f hf
  have cF : (nI f).toNatClampNeg = f := nI_clamp (by omega)
  have iF : vp_in (nI f) 4 := vp_in_nI (by omega) (by omega)
  have cI : (nI (f * 20 + x)).toNatClampNeg = f * 20 + x := nI_clamp (by omega)
  have iI : vp_in (nI (f * 20 + x)) 80 := vp_in_nI (by omega) (by omega)
  have hT' := pu_ok (K := K) (V := V) (c := c) (d := d) hT hf hx20 hc hd
  have hr' := pu_t (f := f) (x := x) (c := c) (d := d) hr
  have fin : ∀ TL, TL = (if x = L f then upd a_textLength f (nI (x + 1)) else a_textLength) → wX_put_104 post (nI f) f_built f_productionCount f_depth a_ruleOf a_marked a_symbolCount a_symbols a_roles a_derives a_first a_follow TL (upd a_kindAt (f * 20 + x) (nI c)) (upd a_valueAt (f * 20 + x) (nI d)) a_failsAt a_expectedAt a_roleAt a_scopeAt a_openProduction a_openNext a_openStart a_targetBefore := by
    intro TL hTL
    rw [← hTL] at hr'
    unfold wX_put_104
    refine xm_parse hG hT' hx hr' hB hf _ (fun d FA EX RO SC OP ON OS h1 h2 => hP _ ⟨hb, hx, hr', fun _ => ⟨hB, fun g hg => ?_⟩, fun h => nomatch h⟩)
    rcases Classical.em (g = f) with e | e
    · subst e; exact h1
    · refine h2 g hg e (rx_fg (pu_Lo e) (fun y hy => ud_n ?_) (hF g hg))
      have := hT.1 g hg
      omega
  unfold wpX_put
  dsimp only
  refine br_f (by rw [hb]; decide) (xm_isf _ (fun hn => absurd ⟨f, hf, rfl⟩ hn) (fun _ _ _ => br_f (by decide) ?_))
  rw [cF, hr.1 f hf]
  refine br_f (nI_pos (by omega)) ⟨iF, br_f (nI_nlt hxl (by omega)) (br_t (nI_lt (b := 20) hx20 (by omega)) (br_f (nI_pos (by omega)) (br_f (nI_ge (b := 10) hc (by omega)) (br_f (nI_pos (by omega)) (br_t (nI_lt (b := 16) hd (by omega)) (nm_r (ba_x20 f x) ?_))))))⟩
  rw [cI]
  refine ⟨iI, nm_e ⟨iI, nm_e ⟨iF, pk_eq x (L f) (fun e => ⟨iF, nm_r (congrArg _ (nI_1 x)) (fin _ (if_pos e).symm)⟩) (fun e => fin _ (if_neg e).symm)⟩⟩⟩
end
section
variable {f_np f_built f_some f_empty f_wn f_nt : Int32} {a_pRule a_pScope a_pLen a_sym a_role a_first a_follow a_kind a_val a_len a_word a_reach a_beyond a_way a_known a_bad a_part a_scopes a_inner a_tRule a_tFrom a_tTo a_before : Nat → Int32} {G : gm_G} {L K V : Nat → Nat} {b : Bool}
theorem ym_put0 (hT : tx_ok L K V) (hb : f_built = rb b) (hr : rx_t L K V a_len a_kind a_val) {v1 v2 v3 v4 : Int32} (hn : ¬ pt_ok b L v1 v2 v3 v4) (post : Int32 → SY → Prop) (hP : post 0 (f_np, f_built, f_some, f_empty, f_wn, f_nt, a_pRule, a_pScope, a_pLen, a_sym, a_role, a_first, a_follow, a_kind, a_val, a_len, a_word, a_reach, a_beyond, a_way, a_known, a_bad, a_part, a_scopes, a_inner, a_tRule, a_tFrom, a_tTo, a_before)) : wpY_put post (f_np, f_built, f_some, f_empty, f_wn, f_nt, a_pRule, a_pScope, a_pLen, a_sym, a_role, a_first, a_follow, a_kind, a_val, a_len, a_word, a_reach, a_beyond, a_way, a_known, a_bad, a_part, a_scopes, a_inner, a_tRule, a_tFrom, a_tTo, a_before) v1 v2 v3 v4 := by
  unfold wpY_put
  dsimp only
  refine br_c (fun _ => hP) (fun h1 => ym_isf _ (fun _ => br_t rfl hP) (fun f hf e => br_f (by decide) ?_))
  subst e
  have l := hT.1 f hf
  have cF : (nI f).toNatClampNeg = f := nI_clamp (by omega)
  rw [cF, hr.1 f hf]
  refine br_c (fun _ => hP) (fun h2 => ⟨vp_in_nI (by omega) (by omega), br_c (fun _ => hP) (fun h3 => br_c (fun _ => hP) (fun h5 => br_c (fun _ => hP) (fun h6 => br_c (fun _ => hP) (fun h7 => br_c (fun _ => hP) (fun h8 => br_c (fun _ => hP) (fun h4 => ?_))))))⟩)
  exfalso
  have hbt : b = true := by
    cases b with
    | true => rfl
    | false => rw [hb] at h1; exact absurd rfl h1
  obtain ⟨x, x0, x2⟩ := nI_of h2
  obtain ⟨c, c1, c2⟩ := ba_ix (n := 10) (by omega) h5 (fun q => h6 (Int32.lt_of_lt_of_le (by decide) q))
  obtain ⟨d, d1, d2⟩ := ba_ix (n := 16) (by omega) h7 (fun q => h8 (Int32.lt_of_lt_of_le (by decide) q))
  subst x2
  have xl : x ≤ L f := by
    rcases Nat.lt_or_ge (L f) x with z | z
    · exact absurd (nI_lt z (by omega)) h3
    · exact z
  have x20 : x ≠ 20 := fun e => by subst e; exact h4 rfl
  exact hn ⟨hbt, f, x, c, d, hf, xl, by omega, c1, d1, rfl, rfl, c2, d2⟩
theorem ym_put1 (hT : tx_ok L K V) (hY : ry_R true G L K V (f_np, f_built, f_some, f_empty, f_wn, f_nt, a_pRule, a_pScope, a_pLen, a_sym, a_role, a_first, a_follow, a_kind, a_val, a_len, a_word, a_reach, a_beyond, a_way, a_known, a_bad, a_part, a_scopes, a_inner, a_tRule, a_tFrom, a_tTo, a_before)) {f x c d : Nat} (hf : f < 4) (hxl : x ≤ L f) (hx20 : x < 20) (hc : c < 10) (hd : d < 16) (post : Int32 → SY → Prop) (hP : ∀ v, ry_R true G (pu_L L f x) (ud K (f * 20 + x) c) (ud V (f * 20 + x) d) v → post 1 v) : wpY_put post (f_np, f_built, f_some, f_empty, f_wn, f_nt, a_pRule, a_pScope, a_pLen, a_sym, a_role, a_first, a_follow, a_kind, a_val, a_len, a_word, a_reach, a_beyond, a_way, a_known, a_bad, a_part, a_scopes, a_inner, a_tRule, a_tFrom, a_tTo, a_before) (nI f) (nI x) (nI c) (nI d) := by
  obtain ⟨y1, y2, y3, y4⟩ := hY
  have l := hT.1 f hf
  have cF : (nI f).toNatClampNeg = f := nI_clamp (by omega)
  have iF : vp_in (nI f) 4 := vp_in_nI (by omega) (by omega)
  have cI : (nI (f * 20 + x)).toNatClampNeg = f * 20 + x := nI_clamp (by omega)
  have iI : vp_in (nI (f * 20 + x)) 80 := vp_in_nI (by omega) (by omega)
  have hr' := pu_t (f := f) (x := x) (c := c) (d := d) y3
  have fin : ∀ LE, LE = (if x = L f then upd a_len f (nI (x + 1)) else a_len) → ry_R true G (pu_L L f x) (ud K (f * 20 + x) c) (ud V (f * 20 + x) d) (f_np, f_built, f_some, f_empty, f_wn, f_nt, a_pRule, a_pScope, a_pLen, a_sym, a_role, a_first, a_follow, upd a_kind (f * 20 + x) (nI c), upd a_val (f * 20 + x) (nI d), LE, a_word, a_reach, a_beyond, a_way, upd a_known f 0, a_bad, a_part, a_scopes, a_inner, a_tRule, a_tFrom, a_tTo, a_before) := by
    intro LE hLE
    rw [← hLE] at hr'
    refine ⟨y1, y2, hr', fun g hg => ?_⟩
    rcases Classical.em (g = f) with e | e
    · subst e; exact Or.inl pk_us
    · show upd a_known f 0 g = 0 ∨ _ ∧ upd a_known f 0 g = 1 ∧ _
      rw [pk_un e]
      rcases y4 g hg with z | ⟨z1, z2, z3⟩
      · exact Or.inl z
      · refine Or.inr ⟨z1, z2, ry_fg (pu_Lo e) (fun y hy => ud_n ?_) z3⟩
        have := hT.1 g hg
        omega
  unfold wpY_put
  dsimp only
  refine br_f (by rw [y1]; decide) (ym_isf _ (fun hn => absurd ⟨f, hf, rfl⟩ hn) (fun _ _ _ => br_f (by decide) ?_))
  rw [cF, y3.1 f hf, ba_20x, cI, ba_nb c (by omega), ba_vb (k := c) (by omega), ba_nb d (by omega), ba_vb (k := d) (by omega)]
  refine br_f (nI_pos (by omega)) ⟨iF, br_f (nI_nlt hxl (by omega)) (br_f (nI_pos (by omega)) (br_f (nI_nlt (a := 9) (b := c) (by omega) (by omega)) (br_f (nI_pos (by omega)) (br_f (nI_nlt (a := 15) (b := d) (by omega) (by omega)) (br_f (fun q => ?_) ⟨iI, nm_e ⟨iI, nm_e ⟨iF, pk_eq x (L f) (fun e => ⟨iF, iF, nm_r (congrArg _ (by rw [nI_1, ba_nb _ (by omega), ba_vb (by omega), e])) ⟨iF, nm_r (congrArg _ ba_bool0) (hP _ (fin _ (if_pos e).symm))⟩⟩) (fun e => ⟨iF, nm_r (congrArg _ ba_bool0) (hP _ (fin _ (if_neg e).symm))⟩)⟩⟩⟩)))))⟩
  have := (nI_eq (a := x) (b := 20) (by omega) (by omega)).mp q
  omega
end
theorem i_vc_put {k : Nat} {u : SX} {v : SY} (I : i_Rel k u v) (hk : k + 5 ≤ 2560) (v1 : Int32) (v2 : Int32) (v3 : Int32) (v4 : Int32) : wpX_put (fun r u' => wpY_put (fun r' v' => r' = r ∧ i_Rel (k + 5) u' v') v v1 v2 v3 v4) u v1 v2 v3 v4 := by
  have I0 := I
  obtain ⟨b, G, L, K, V, hp, hX, hY⟩ := I
  obtain ⟨f_built, f_productionCount, f_depth, a_ruleOf, a_marked, a_symbolCount, a_symbols, a_roles, a_derives, a_first, a_follow, a_textLength, a_kindAt, a_valueAt, a_failsAt, a_expectedAt, a_roleAt, a_scopeAt, a_openProduction, a_openNext, a_openStart, a_targetBefore⟩ := u
  obtain ⟨g_np, g_built, g_some, g_empty, g_wn, g_nt, b_pRule, b_pScope, b_pLen, b_sym, b_role, b_first, b_follow, b_kind, b_val, b_len, b_word, b_reach, b_beyond, b_way, b_known, b_bad, b_part, b_scopes, b_inner, b_tRule, b_tFrom, b_tTo, b_before⟩ := v
  have hY0 := hY
  obtain ⟨x1, x2, x3, x4, x5⟩ := hX
  obtain ⟨y1, y2, y3, y4⟩ := hY
  rcases Classical.em (pt_ok b L v1 v2 v3 v4) with ⟨hb, f, x, c, d, a1, a2, a3, a4, a5, a6, a7, a8, a9⟩ | hn
  · subst hb a6 a7 a8 a9
    obtain ⟨b1, b2⟩ := x4 rfl
    have hG := hp.2.2.1 rfl
    exact xm_put1 hG hp.2.1 x1 x2 x3 b1 b2 a1 a2 a3 a4 a5 _ (fun u' hu => ym_put1 hp.2.1 hY0 a1 a2 a3 a4 a5 _ (fun v' hv => ⟨rfl, true, G, _, _, _, ⟨hp.1, pu_ok hp.2.1 a1 a3 a4 a5, fun _ => hG, fun h => nomatch h⟩, hu, hv⟩))
  · exact xm_put0 hp.2.1 x1 x3 hn _ (ym_put0 hp.2.1 y1 y3 hn _ ⟨rfl, I0⟩)
/-! delete -/
def dl_s (f x l : Nat) (K : Nat → Nat) : Nat → Nat := fun y => if f * 20 + x ≤ y ∧ y < f * 20 + l - 1 then K (y + 1) else K y
theorem dl_ok {L K V : Nat → Nat} {f x : Nat} (hT : tx_ok L K V) (hf : f < 4) (hx : x < L f) : tx_ok (ud L f (L f - 1)) (dl_s f x (L f) K) (dl_s f x (L f) V) := by
  have l := hT.1 f hf
  refine ⟨fun g hg => ?_, fun y hy => ⟨?_, ?_⟩⟩
  · unfold ud; split
    · omega
    · exact hT.1 g hg
  · unfold dl_s; split
    · exact (hT.2 _ (by omega)).1
    · exact (hT.2 y hy).1
  · unfold dl_s; split
    · exact (hT.2 _ (by omega)).2
    · exact (hT.2 y hy).2
theorem dl_o {f x l g y : Nat} {K : Nat → Nat} (hl : l ≤ 20) (hg : g ≠ f) (hy : y < 20) : dl_s f x l K (g * 20 + y) = K (g * 20 + y) := if_neg (by omega)
section
variable {f_built f_productionCount f_depth : Int32} {a_ruleOf a_marked a_symbolCount a_symbols a_roles a_derives a_first a_follow a_textLength a_kindAt a_valueAt a_failsAt a_expectedAt a_roleAt a_scopeAt a_openProduction a_openNext a_openStart a_targetBefore : Nat → Int32} {G : gm_G} {L K V : Nat → Nat} {b : Bool}
theorem xm_d33 {f x : Nat} (hT : tx_ok L K V) (hf : f < 4) (hx : x < L f) (hr : ∀ y, y < 80 → a_kindAt y = nI (K y) ∧ a_valueAt y = nI (V y)) (hl : a_textLength f = nI (L f)) (post : Int32 → SX → Prop) (hP : ∀ KA VA, (∀ y, y < 80 → KA y = nI (dl_s f x (L f) K y) ∧ VA y = nI (dl_s f x (L f) V y)) → wpX_parse (fun u => match u with | (f_built, f_productionCount, f_depth, a_ruleOf, a_marked, a_symbolCount, a_symbols, a_roles, a_derives, a_first, a_follow, a_textLength, a_kindAt, a_valueAt, a_failsAt, a_expectedAt, a_roleAt, a_scopeAt, a_openProduction, a_openNext, a_openStart, a_targetBefore) => post 1 (f_built, f_productionCount, f_depth, a_ruleOf, a_marked, a_symbolCount, a_symbols, a_roles, a_derives, a_first, a_follow, a_textLength, a_kindAt, a_valueAt, a_failsAt, a_expectedAt, a_roleAt, a_scopeAt, a_openProduction, a_openNext, a_openStart, a_targetBefore)) (f_built, f_productionCount, f_depth, a_ruleOf, a_marked, a_symbolCount, a_symbols, a_roles, a_derives, a_first, a_follow, upd a_textLength f (nI (L f - 1)), KA, VA, a_failsAt, a_expectedAt, a_roleAt, a_scopeAt, a_openProduction, a_openNext, a_openStart, a_targetBefore) (nI f)) :
    ∀ d q KA VA, q + d = f * 20 + L f - 1 → f * 20 + x ≤ q → (∀ y, y < 80 → KA y = nI (if f * 20 + x ≤ y ∧ y < q then K (y + 1) else K y) ∧ VA y = nI (if f * 20 + x ≤ y ∧ y < q then V (y + 1) else V y)) → wX_delete_33 post (nI f) (nI (f * 20 + L f - 1)) f_built f_productionCount f_depth (d + 1) (nI q) a_ruleOf a_marked a_symbolCount a_symbols a_roles a_derives a_first a_follow a_textLength KA VA a_failsAt a_expectedAt a_roleAt a_scopeAt a_openProduction a_openNext a_openStart a_targetBefore := by
  have l := hT.1 f hf
  have cF : (nI f).toNatClampNeg = f := nI_clamp (by omega)
  have iF : vp_in (nI f) 4 := vp_in_nI (by omega) (by omega)
  intro d
  induction d with
  | zero =>
    intro q KA VA hq hxq hI
    have e : q = f * 20 + L f - 1 := by omega
    subst e
    rw [wX_delete_33]
    dsimp only
    rw [cF, hl]
    exact br_t (nI_le (by omega) (by omega)) ⟨iF, iF, nm_r (congrArg _ (ba_m1 (by omega))) (hP KA VA hI)⟩
  | succ d ih =>
    intro q KA VA hq hxq hI
    have c1 : (nI q).toNatClampNeg = q := nI_clamp (by omega)
    have c2 : (nI (q + 1)).toNatClampNeg = q + 1 := nI_clamp (by omega)
    have i1 : vp_in (nI q) 80 := vp_in_nI (by omega) (by omega)
    have i2 : vp_in (nI (q + 1)) 80 := vp_in_nI (by omega) (by omega)
    have h1 := hI (q + 1) (by omega)
    rw [if_neg (by omega), if_neg (by omega)] at h1
    rw [wX_delete_33]
    dsimp only
    rw [nI_1 q, c1, c2, h1.1, h1.2]
    refine br_f (nI_ge (by omega) (by omega)) ⟨i2, i1, nm_e ⟨i2, i1, nm_e (nm_e (ih (q + 1) _ _ (by omega) (by omega) (fun y hy => ?_)))⟩⟩
    rcases Classical.em (y = q) with e | e
    · subst e
      rw [pk_us, pk_us, if_pos ⟨by omega, by omega⟩, if_pos ⟨by omega, by omega⟩]
      exact ⟨rfl, rfl⟩
    · rw [pk_un e, pk_un e]
      have q1 : (f * 20 + x ≤ y ∧ y < q) ↔ (f * 20 + x ≤ y ∧ y < q + 1) := by omega
      refine ⟨(hI y hy).1.trans (congrArg nI (ba_if q1)), (hI y hy).2.trans (congrArg nI (ba_if q1))⟩
end
section
variable {f_np f_built f_some f_empty f_wn f_nt : Int32} {a_pRule a_pScope a_pLen a_sym a_role a_first a_follow a_kind a_val a_len a_word a_reach a_beyond a_way a_known a_bad a_part a_scopes a_inner a_tRule a_tFrom a_tTo a_before : Nat → Int32} {G : gm_G} {L K V : Nat → Nat} {b : Bool}
theorem ym_d31 {f x : Nat} (hT : tx_ok L K V) (hf : f < 4) (hx : x < L f) (hl : a_len f = nI (L f)) (post : Int32 → SY → Prop) (hP : ∀ KA VA, (∀ y, y < 80 → KA y = nI (dl_s f x (L f) K y) ∧ VA y = nI (dl_s f x (L f) V y)) → post 1 (f_np, f_built, f_some, f_empty, f_wn, f_nt, a_pRule, a_pScope, a_pLen, a_sym, a_role, a_first, a_follow, KA, VA, upd a_len f (nI (L f - 1)), a_word, a_reach, a_beyond, a_way, upd a_known f 0, a_bad, a_part, a_scopes, a_inner, a_tRule, a_tFrom, a_tTo, a_before)) :
    ∀ d q KA VA, q + d = f * 20 + L f - 1 → f * 20 + x ≤ q → (∀ y, y < 80 → KA y = nI (if f * 20 + x ≤ y ∧ y < q then K (y + 1) else K y) ∧ VA y = nI (if f * 20 + x ≤ y ∧ y < q then V (y + 1) else V y)) → wY_delete_31 post (nI f) f_np f_built f_some f_empty f_wn f_nt (d + 1) (nI q) a_pRule a_pScope a_pLen a_sym a_role a_first a_follow KA VA a_len a_word a_reach a_beyond a_way a_known a_bad a_part a_scopes a_inner a_tRule a_tFrom a_tTo a_before := by
  have l := hT.1 f hf
  have cF : (nI f).toNatClampNeg = f := nI_clamp (by omega)
  have iF : vp_in (nI f) 4 := vp_in_nI (by omega) (by omega)
  have el : (20 * nI f + nI (L f)) - 1 = nI (f * 20 + L f - 1) := by rw [ba_20x, ba_m1 (by omega)]
  intro d
  induction d with
  | zero =>
    intro q KA VA hq hxq hI
    have e : q = f * 20 + L f - 1 := by omega
    subst e
    rw [wY_delete_31]
    dsimp only
    rw [cF, hl, el]
    exact ⟨iF, br_t (nI_le (by omega) (by omega)) ⟨iF, iF, nm_r (congrArg _ (by rw [ba_m1 (by omega), ba_nb _ (by omega), ba_vb (by omega)])) ⟨iF, nm_r (congrArg _ ba_bool0) (hP KA VA hI)⟩⟩⟩
  | succ d ih =>
    intro q KA VA hq hxq hI
    have c1 : (nI q).toNatClampNeg = q := nI_clamp (by omega)
    have c2 : (nI (q + 1)).toNatClampNeg = q + 1 := nI_clamp (by omega)
    have i1 : vp_in (nI q) 80 := vp_in_nI (by omega) (by omega)
    have i2 : vp_in (nI (q + 1)) 80 := vp_in_nI (by omega) (by omega)
    have h1 := hI (q + 1) (by omega)
    rw [if_neg (by omega), if_neg (by omega)] at h1
    have hk := hT.2 (q + 1) (by omega)
    rw [wY_delete_31]
    dsimp only
    rw [cF, hl, el, nI_1 q, c1, c2, h1.1, h1.2, ba_vb (k := K (q + 1)) (by omega), ba_vb (k := V (q + 1)) (by omega)]
    refine ⟨iF, br_f (nI_ge (by omega) (by omega)) ⟨i2, i1, nm_e ⟨i2, i1, nm_e (nm_e (ih (q + 1) _ _ (by omega) (by omega) (fun y hy => ?_)))⟩⟩⟩
    rcases Classical.em (y = q) with e | e
    · subst e
      rw [pk_us, pk_us, if_pos ⟨by omega, by omega⟩, if_pos ⟨by omega, by omega⟩]
      exact ⟨rfl, rfl⟩
    · rw [pk_un e, pk_un e]
      have q1 : (f * 20 + x ≤ y ∧ y < q) ↔ (f * 20 + x ≤ y ∧ y < q + 1) := by omega
      refine ⟨(hI y hy).1.trans (congrArg nI (ba_if q1)), (hI y hy).2.trans (congrArg nI (ba_if q1))⟩
end
theorem i_vc_delete {k : Nat} {u : SX} {v : SY} (I : i_Rel k u v) (hk : k + 5 ≤ 2560) (v1 : Int32) (v2 : Int32) : wpX_delete (fun r u' => wpY_delete (fun r' v' => r' = r ∧ i_Rel (k + 5) u' v') v v1 v2) u v1 v2 := by
  have I0 := I
  obtain ⟨b, G, L, K, V, hp, hX, hY⟩ := I
  obtain ⟨f_built, f_productionCount, f_depth, a_ruleOf, a_marked, a_symbolCount, a_symbols, a_roles, a_derives, a_first, a_follow, a_textLength, a_kindAt, a_valueAt, a_failsAt, a_expectedAt, a_roleAt, a_scopeAt, a_openProduction, a_openNext, a_openStart, a_targetBefore⟩ := u
  obtain ⟨g_np, g_built, g_some, g_empty, g_wn, g_nt, b_pRule, b_pScope, b_pLen, b_sym, b_role, b_first, b_follow, b_kind, b_val, b_len, b_word, b_reach, b_beyond, b_way, b_known, b_bad, b_part, b_scopes, b_inner, b_tRule, b_tFrom, b_tTo, b_before⟩ := v
  obtain ⟨x1, x2, x3, x4, x5⟩ := hX
  obtain ⟨y1, y2, y3, y4⟩ := hY
  unfold wpX_delete wpY_delete
  dsimp only
  refine xm_tok hp.2.1 x3 _ (fun hn => br_t rfl (ym_tok hp.2.1 y3 (fun _ => ⟨rfl, I0⟩) (fun f x a b c d => absurd ⟨f, x, a, b, c, d⟩ hn))) (fun f x hf hx e1 e2 => br_f (by decide) ?_)
  subst e1 e2
  have l := hp.2.1.1 f hf
  have hbt : b = true := by
    cases b with
    | true => rfl
    | false =>
      have := hp.2.2.2 rfl f hf
      omega
  subst hbt
  have hG := hp.2.2.1 rfl
  obtain ⟨b1, b2⟩ := x4 rfl
  have cF : (nI f).toNatClampNeg = f := nI_clamp (by omega)
  have iF : vp_in (nI f) 4 := vp_in_nI (by omega) (by omega)
  have hT' := dl_ok hp.2.1 hf hx
  refine ⟨iF, nm_r (by rw [cF, x3.1 f hf, ba_x20, ba_m1 (by omega)]) (nm_r (ba_x20 f x) ⟨L f - 1 - x + 1, ?_⟩)⟩
  refine xm_d33 hp.2.1 hf hx x3.2 (x3.1 f hf) _ (fun KA VA hKV => ?_) (L f - 1 - x) (f * 20 + x) a_kindAt a_valueAt (by omega) (Nat.le_refl _) (fun y hy => ?_)
  · have hr' : rx_t (ud L f (L f - 1)) (dl_s f x (L f) K) (dl_s f x (L f) V) (upd a_textLength f (nI (L f - 1))) KA VA := by
      refine ⟨fun g hg => ?_, hKV⟩
      unfold ud; rw [ba_up]; split
      · rfl
      · exact x3.1 g hg
    refine xm_parse hG hT' x2 hr' b1 hf _ (fun d FA EX RO SC OP ON OS h1 h2 => ?_)
    dsimp only
    have hXg : ∀ g, g < 4 → rx_f G (ud L f (L f - 1)) (dl_s f x (L f) K) g FA EX RO SC := fun g hg => by
      rcases Classical.em (g = f) with e | e
      · subst e; exact h1
      · have lg := hp.2.1.1 g hg
        exact h2 g hg e (rx_fg (ud_n e) (fun y hy => dl_o l e (by omega)) (b2 g hg))
    have hYl : ∀ g, g < 4 → upd b_len f (nI (L f - 1)) g = nI (ud L f (L f - 1) g) := fun g hg => by
      unfold ud; rw [ba_up]; split
      · rfl
      · exact y3.1 g hg
    have hYg : ∀ g, g < 4 → upd b_known f 0 g = 0 ∨ (true = true ∧ upd b_known f 0 g = 1 ∧ ry_f G (ud L f (L f - 1)) (dl_s f x (L f) K) g b_bad b_part b_inner b_scopes) := fun g hg => by
      rcases Classical.em (g = f) with e | e
      · subst e; exact Or.inl pk_us
      · rw [pk_un e]
        rcases y4 g hg with z | ⟨z1, z2, z3⟩
        · exact Or.inl z
        · have lg := hp.2.1.1 g hg
          exact Or.inr ⟨z1, z2, ry_fg (ud_n e) (fun y hy => dl_o l e (by omega)) z3⟩
    have h0 : ∀ y, y < 80 → b_kind y = nI (if f * 20 + x ≤ y ∧ y < f * 20 + x then K (y + 1) else K y) ∧ b_val y = nI (if f * 20 + x ≤ y ∧ y < f * 20 + x then V (y + 1) else V y) := fun y hy => by
      rw [if_neg (by omega), if_neg (by omega)]; exact y3.2 y hy
    refine ym_tok hp.2.1 y3 (fun hn => absurd ⟨f, x, hf, hx, rfl, rfl⟩ hn) (fun f' x' _ _ _ _ => nm_r (ba_20x f x) ⟨L f - 1 - x + 1, ?_⟩)
    exact ym_d31 hp.2.1 hf hx (y3.1 f hf) _ (fun KA' VA' hKV' => ⟨rfl, true, G, _, _, _, ⟨hp.1, hT', fun _ => hG, fun h => nomatch h⟩, ⟨x1, x2, hr', fun _ => ⟨b1, hXg⟩, fun h => nomatch h⟩, ⟨y1, y2, ⟨hYl, hKV'⟩, hYg⟩⟩) (L f - 1 - x) (f * 20 + x) b_kind b_val (by omega) (Nat.le_refl _) h0
  · rw [if_neg (by omega), if_neg (by omega)]; exact x3.2 y hy
end
section
/-! errorAt, scope, expected -/
theorem pr_b {b : Bool} {x : Int32} (h : x = rb b) : (x = 0 ↔ b = false) := by
  rw [h]
  cases b with
  | false => exact ⟨fun _ => rfl, fun _ => rfl⟩
  | true => exact ⟨fun z => absurd z (by decide), fun z => nomatch z⟩
theorem i_vc_errorAt {k : Nat} {u : SX} {v : SY} (I : i_Rel k u v) (hk : k + 5 ≤ 2560) (v1 : Int32) : wpX_errorAt (fun r => wpY_errorAt (fun r' v' => r' = r ∧ i_Rel (k + 5) u v') v v1) u v1 := by
  have I0 := I
  obtain ⟨b, G, L, K, V, hp, hX, hY⟩ := I
  obtain ⟨f_built, f_productionCount, f_depth, a_ruleOf, a_marked, a_symbolCount, a_symbols, a_roles, a_derives, a_first, a_follow, a_textLength, a_kindAt, a_valueAt, a_failsAt, a_expectedAt, a_roleAt, a_scopeAt, a_openProduction, a_openNext, a_openStart, a_targetBefore⟩ := u
  obtain ⟨g_np, g_built, g_some, g_empty, g_wn, g_nt, b_pRule, b_pScope, b_pLen, b_sym, b_role, b_first, b_follow, b_kind, b_val, b_len, b_word, b_reach, b_beyond, b_way, b_known, b_bad, b_part, b_scopes, b_inner, b_tRule, b_tFrom, b_tTo, b_before⟩ := v
  have hY0 := hY
  have hX0 := hX
  obtain ⟨x1, x2, x3, x4, x5⟩ := hX
  obtain ⟨y1, y2, y3, y4⟩ := hY
  unfold wpX_errorAt wpY_errorAt
  dsimp only
  cases b with
  | false => exact br_t x1 (br_t y1 ⟨rfl, I0⟩)
  | true =>
    have hb : ¬ f_built = 0 := by rw [x1]; decide
    have hb' : ¬ g_built = 0 := by rw [y1]; decide
    have hG := hp.2.2.1 rfl
    refine br_f hb (xm_isf _ (fun hn => br_t rfl (br_f hb' (ym_isf _ (fun _ => br_t rfl ⟨rfl, I0⟩) (fun f hf e => absurd ⟨f, hf, e⟩ hn)))) (fun f hf e => br_f (by decide) ?_))
    subst e
    have cF : (nI f).toNatClampNeg = f := nI_clamp (by omega)
    have iF : vp_in (nI f) 4 := vp_in_nI (by omega) (by omega)
    rw [cF]
    refine ⟨iF, br_f hb' (ym_isf _ (fun hn => absurd ⟨f, hf, rfl⟩ hn) (fun _ _ _ => br_f (by decide) (ym_know hG hp.2.1 hY0 hf _ (fun v' hv hkn => ?_))))⟩
    obtain ⟨f_np, f_built, f_some, f_empty, f_wn, f_nt, a_pRule, a_pScope, a_pLen, a_sym, a_role, a_first, a_follow, a_kind, a_val, a_len, a_word, a_reach, a_beyond, a_way, a_known, a_bad, a_part, a_scopes, a_inner, a_tRule, a_tFrom, a_tTo, a_before⟩ := v'
    exact ⟨iF, px_bu hkn.2.1 ((x4 rfl).2 f hf).2.1, true, G, L, K, V, hp, hX0, hv⟩
theorem i_vc_scope {k : Nat} {u : SX} {v : SY} (I : i_Rel k u v) (hk : k + 5 ≤ 2560) (v1 : Int32) (v2 : Int32) : wpX_scope (fun r => wpY_scope (fun r' v' => r' = r ∧ i_Rel (k + 5) u v') v v1 v2) u v1 v2 := by
  have I0 := I
  obtain ⟨b, G, L, K, V, hp, hX, hY⟩ := I
  obtain ⟨f_built, f_productionCount, f_depth, a_ruleOf, a_marked, a_symbolCount, a_symbols, a_roles, a_derives, a_first, a_follow, a_textLength, a_kindAt, a_valueAt, a_failsAt, a_expectedAt, a_roleAt, a_scopeAt, a_openProduction, a_openNext, a_openStart, a_targetBefore⟩ := u
  obtain ⟨g_np, g_built, g_some, g_empty, g_wn, g_nt, b_pRule, b_pScope, b_pLen, b_sym, b_role, b_first, b_follow, b_kind, b_val, b_len, b_word, b_reach, b_beyond, b_way, b_known, b_bad, b_part, b_scopes, b_inner, b_tRule, b_tFrom, b_tTo, b_before⟩ := v
  have hY0 := hY
  have hX0 := hX
  obtain ⟨x1, x2, x3, x4, x5⟩ := hX
  obtain ⟨y1, y2, y3, y4⟩ := hY
  unfold wpX_scope wpY_scope
  dsimp only
  refine xm_tok hp.2.1 x3 _ (fun hn => br_t rfl (ym_tok hp.2.1 y3 (fun _ => ⟨rfl, I0⟩) (fun f x a b c d => absurd ⟨f, x, a, b, c, d⟩ hn))) (fun f x hf hx e1 e2 => br_f (by decide) ?_)
  subst e1 e2
  have l := hp.2.1.1 f hf
  have hbt : b = true := by
    cases b with
    | true => rfl
    | false =>
      have := hp.2.2.2 rfl f hf
      omega
  subst hbt
  have hG := hp.2.2.1 rfl
  obtain ⟨q1, q2, q3, q4⟩ := (x4 rfl).2 f hf
  have cF : (nI f).toNatClampNeg = f := nI_clamp (by omega)
  have iF : vp_in (nI f) 4 := vp_in_nI (by omega) (by omega)
  have cI : (nI (f * 20 + x)).toNatClampNeg = f * 20 + x := nI_clamp (by omega)
  have iI : vp_in (nI (f * 20 + x)) 80 := vp_in_nI (by omega) (by omega)
  have hnr : ∀ kk : Nat, kk ≤ L f → ¬ nI kk = -1 := fun kk hk z => by
    have := nI_pos' (n := kk) (by omega)
    rw [z] at this
    exact absurd this (by decide)
  refine ⟨iF, ?_⟩
  rcases q2 with ⟨d1, d2⟩ | ⟨d1, kk, d2, d3, _⟩
  · refine br_t (by rw [cF]; exact d2) ⟨by rw [ba_x20]; exact iI, ym_tok hp.2.1 y3 (fun hn => absurd ⟨f, x, hf, hx, rfl, rfl⟩ hn) (fun f' x' _ _ _ _ => ym_know hG hp.2.1 hY0 hf _ (fun v' hv hkn => ?_))⟩
    obtain ⟨f_np, f_built, f_some, f_empty, f_wn, f_nt, a_pRule, a_pScope, a_pLen, a_sym, a_role, a_first, a_follow, a_kind, a_val, a_len, a_word, a_reach, a_beyond, a_way, a_known, a_bad, a_part, a_scopes, a_inner, a_tRule, a_tFrom, a_tTo, a_before⟩ := v'
    have hb : a_bad f = -1 := px_bu hkn.2.1 (Or.inl ⟨d1, rfl⟩)
    have hi : a_inner (f * 20 + x) = nI (px_c G (tx_w L K f) (L f) x) - 1 := ((hkn.2.2 d1).1 x hx).2
    have hs := q4 x (by omega)
    dsimp only
    refine ⟨iF, br_f (by rw [cF, hb]; decide) ⟨by rw [ba_20x]; exact iI, ?_, true, G, L, K, V, hp, hX0, hv⟩⟩
    rw [ba_20x, ba_x20, cI]
    exact hi.trans hs.symm
  · refine br_f (by rw [cF, d3]; exact hnr kk d2) (ym_tok hp.2.1 y3 (fun hn => absurd ⟨f, x, hf, hx, rfl, rfl⟩ hn) (fun f' x' _ _ _ _ => ym_know hG hp.2.1 hY0 hf _ (fun v' hv hkn => ?_)))
    obtain ⟨f_np, f_built, f_some, f_empty, f_wn, f_nt, a_pRule, a_pScope, a_pLen, a_sym, a_role, a_first, a_follow, a_kind, a_val, a_len, a_word, a_reach, a_beyond, a_way, a_known, a_bad, a_part, a_scopes, a_inner, a_tRule, a_tFrom, a_tTo, a_before⟩ := v'
    dsimp only
    rcases hkn.2.1 with ⟨z, _⟩ | ⟨_, k2, e1, e2, _⟩
    · exact absurd z d1
    · exact ⟨iF, br_t (by rw [cF, e2]; exact nI_pos' (by omega)) ⟨rfl, true, G, L, K, V, hp, hX0, hv⟩⟩
/-! expected -/
def ye_w (w : Nat → Nat) (k t x : Nat) : Nat := if x < k then w x else if x = k then t else 10
theorem ye_b {G : gm_G} {w : Nat → Nat} {k t : Nat} (ht : t < 10) : yb G (ye_w w k t) (k + 1) 0 0 ↔ px_e G w k t := by
  constructor
  · intro ⟨w', j, a, b, c⟩
    refine ⟨fun x => if x < j then w' x else 10, j, fun x hx => ?_, ?_, by omega, if_neg (Nat.lt_irrefl _), dr_D_w (fun x _ hx => (if_pos hx).symm) c⟩
    · exact (if_pos (by omega)).trans ((a x (by omega)).trans (if_pos hx))
    · exact (if_pos (by omega)).trans ((a k (by omega)).trans ((if_neg (Nat.lt_irrefl _)).trans (if_pos rfl)))
  · intro ⟨w', j, a, b, c, e, f⟩
    have hj : k < j := by
      rcases Nat.lt_or_ge k j with z | z
      · exact z
      · have q : k = j := by omega
        subst q; omega
    refine ⟨w', j, fun x hx => ?_, hj, f⟩
    rcases Nat.lt_or_ge x k with z | z
    · exact (a x z).trans (if_pos z).symm
    · have q : x = k := by omega
      subst q
      exact b.trans ((if_neg (Nat.lt_irrefl _)).trans (if_pos rfl)).symm
section
variable {f_np f_built f_some f_empty f_wn f_nt : Int32} {a_pRule a_pScope a_pLen a_sym a_role a_first a_follow a_kind a_val a_len a_word a_reach a_beyond a_way a_known a_bad a_part a_scopes a_inner a_tRule a_tFrom a_tTo a_before : Nat → Int32} {G : gm_G} {L K V : Nat → Nat}
theorem ym_e56 (hG : gm_gd G) (hy : yg_ok G f_np a_pRule a_pScope a_pLen a_sym a_role) {w : Nat → Nat} {f n : Nat} (hf : f < 4) (hn : n ≤ 20) (hk : ∀ x, x < n → a_kind (f * 20 + x) = nI (w x) ∧ w x < 10) (post : Int32 → SY → Prop) (hP : ∀ r wn WO RE BE WY, gm_ms r (px_e G w n) → post r (f_np, f_built, f_some, f_empty, wn, f_nt, a_pRule, a_pScope, a_pLen, a_sym, a_role, a_first, a_follow, a_kind, a_val, a_len, WO, RE, BE, WY, a_known, a_bad, a_part, a_scopes, a_inner, a_tRule, a_tFrom, a_tTo, a_before)) :
    ∀ d t x3 wn WO RE BE WY, t + d = 10 → gm_ms x3 (fun q => (q < t ∨ q = 10) ∧ px_e G w n q) → wY_expected_56 post (nI f) (nI n) (d + 1) x3 (nI t) f_np f_built f_some f_empty wn f_nt a_pRule a_pScope a_pLen a_sym a_role a_first a_follow a_kind a_val a_len WO RE BE WY a_known a_bad a_part a_scopes a_inner a_tRule a_tFrom a_tTo a_before := by
  intro d
  induction d with
  | zero =>
    intro t x3 wn WO RE BE WY ht hx
    have e : t = 10 := by omega
    subst e
    rw [wY_expected_56]
    dsimp only
    refine br_t (nI_le (a := 10) (by omega) (by omega)) (hP _ _ _ _ _ _ (gm_ms_if hx (fun q _ => ⟨fun z => z.2, fun z => ⟨?_, z⟩⟩)))
    have := px_e_le z
    omega
  | succ d ih =>
    intro t x3 wn WO RE BE WY ht hx
    have wk : ∀ x, x < n → ye_w w n t x = w x := fun x hx => if_pos hx
    have wt : ye_w w n t n = t := (if_neg (Nat.lt_irrefl _)).trans (if_pos rfl)
    rw [wY_expected_56]
    dsimp only
    refine br_f (nI_ge (b := 10) (by omega) (by omega)) (ym_take hG hy (w := ye_w w n t) (wn := n + 1) hf hn (Or.inr ⟨rfl, by rw [wt], by rw [wt]; omega⟩) (fun x hx => by rw [wk x hx]; exact hk x hx) (fun x hx => (if_neg (by omega)).trans (if_neg (by omega))) _ (fun WO' RE' BE' WY' q1 q2 q3 => ?_))
    refine ym_go hG q2 q3 _ (fun z => br_f (by decide) (nm_e (nm_r (nI_1 t) (ih (t + 1) _ _ _ _ _ _ (by omega) (fun q hq => ?_))))) (fun z => br_t rfl (nm_r (nI_1 t) (ih (t + 1) _ _ _ _ _ _ (by omega) (fun q hq => (hx q hq).trans ?_))))
    · rw [ba_oone (by omega), hx q hq]
      have zt := (ye_b (by omega)).mp z
      constructor
      · rintro (⟨h1, h2⟩ | h)
        · exact ⟨by omega, h2⟩
        · subst h; exact ⟨by omega, zt⟩
      · rintro ⟨h1, h2⟩
        rcases Classical.em (q = t) with e | e
        · exact Or.inr e
        · exact Or.inl ⟨by omega, h2⟩
    · have zt : ¬ px_e G w n t := fun y => z ((ye_b (by omega)).mpr y)
      constructor
      · rintro ⟨h1, h2⟩
        exact ⟨by omega, h2⟩
      · rintro ⟨h1, h2⟩
        rcases Classical.em (q = t) with e | e
        · subst e; exact absurd h2 zt
        · exact ⟨by omega, h2⟩
theorem ym_exp (hG : gm_gd G) (hy : yg_ok G f_np a_pRule a_pScope a_pLen a_sym a_role) {w : Nat → Nat} {f n : Nat} (hf : f < 4) (hn : n ≤ 20) (hk : ∀ x, x < n → a_kind (f * 20 + x) = nI (w x) ∧ w x < 10) (post : Int32 → SY → Prop) (hP : ∀ r wn WO RE BE WY, gm_ms r (px_e G w n) → post r (f_np, f_built, f_some, f_empty, wn, f_nt, a_pRule, a_pScope, a_pLen, a_sym, a_role, a_first, a_follow, a_kind, a_val, a_len, WO, RE, BE, WY, a_known, a_bad, a_part, a_scopes, a_inner, a_tRule, a_tFrom, a_tTo, a_before)) : wpY_take (fun u => match u with | (f_np, f_built, f_some, f_empty, f_wn, f_nt, a_pRule, a_pScope, a_pLen, a_sym, a_role, a_first, a_follow, a_kind, a_val, a_len, a_word, a_reach, a_beyond, a_way, a_known, a_bad, a_part, a_scopes, a_inner, a_tRule, a_tFrom, a_tTo, a_before) => wpY_whole (fun r_66 => (r_66 = 0 → ∃ n56 : Nat, wY_expected_56 post (nI f) (nI n) n56 0 0 f_np f_built f_some f_empty f_wn f_nt a_pRule a_pScope a_pLen a_sym a_role a_first a_follow a_kind a_val a_len a_word a_reach a_beyond a_way a_known a_bad a_part a_scopes a_inner a_tRule a_tFrom a_tTo a_before) ∧ (¬ r_66 = 0 → ∃ n56 : Nat, wY_expected_56 post (nI f) (nI n) n56 1024 0 f_np f_built f_some f_empty f_wn f_nt a_pRule a_pScope a_pLen a_sym a_role a_first a_follow a_kind a_val a_len a_word a_reach a_beyond a_way a_known a_bad a_part a_scopes a_inner a_tRule a_tFrom a_tTo a_before)) (f_np, f_built, f_some, f_empty, f_wn, f_nt, a_pRule, a_pScope, a_pLen, a_sym, a_role, a_first, a_follow, a_kind, a_val, a_len, a_word, a_reach, a_beyond, a_way, a_known, a_bad, a_part, a_scopes, a_inner, a_tRule, a_tFrom, a_tTo, a_before)) (f_np, f_built, f_some, f_empty, f_wn, f_nt, a_pRule, a_pScope, a_pLen, a_sym, a_role, a_first, a_follow, a_kind, a_val, a_len, a_word, a_reach, a_beyond, a_way, a_known, a_bad, a_part, a_scopes, a_inner, a_tRule, a_tFrom, a_tTo, a_before) (nI f) (nI n) (-1) := by
  have wkw : ∀ x, x < n → yk_w w n x = w x := fun x hx => if_pos hx
  refine ym_take hG hy (w := yk_w w n) (wn := n) hf hn (Or.inl ⟨rfl, rfl⟩) (fun x hx => by rw [wkw x hx]; exact hk x hx) (fun x hx => if_neg (by omega)) _ (fun WO RE BE WY q1 q2 q3 => ?_)
  have e10 : dr_D G (yk_w w n) 0 0 n ↔ px_e G w n 10 := by
    rw [← px_e_s (w := yk_w w n) (if_neg (Nat.lt_irrefl _))]
    constructor
    · intro ⟨w', j, a, b, c⟩
      exact ⟨w', j, fun x hx => (a x hx).trans (wkw x hx), b, c⟩
    · intro ⟨w', j, a, b, c⟩
      exact ⟨w', j, fun x hx => (a x hx).trans (wkw x hx).symm, b, c⟩
  refine ym_wh q1 q2 q3 _ (fun z => br_f (by decide) ⟨10 + 1, ym_e56 hG hy hf hn hk post hP 10 0 _ _ _ _ _ _ (by omega) (fun q hq => ?_)⟩) (fun z => br_t rfl ⟨10 + 1, ym_e56 hG hy hf hn hk post hP 10 0 _ _ _ _ _ _ (by omega) (fun q hq => ?_)⟩)
  · rw [ba_1024 q hq, decide_eq_true_iff]
    constructor
    · intro h
      subst h
      exact ⟨Or.inr rfl, e10.mp z⟩
    · intro h
      omega
  · rw [b_0]
    refine ⟨fun h => absurd h (by decide), fun h => ?_⟩
    have e : q = 10 := by omega
    subst e
    exact absurd (e10.mpr h.2) z
end
def ex_ok (b : Bool) (L : Nat → Nat) (v1 v2 : Int32) : Prop := b = true ∧ ∃ f x, f < 4 ∧ x ≤ L f ∧ v1 = nI f ∧ v2 = nI x
theorem i_vc_expected {k : Nat} {u : SX} {v : SY} (I : i_Rel k u v) (hk : k + 5 ≤ 2560) (v1 : Int32) (v2 : Int32) : wpX_expected (fun r => wpY_expected (fun r' v' => r' = r ∧ i_Rel (k + 5) u v') v v1 v2) u v1 v2 := by
  have I0 := I
  obtain ⟨b, G, L, K, V, hp, hX, hY⟩ := I
  obtain ⟨f_built, f_productionCount, f_depth, a_ruleOf, a_marked, a_symbolCount, a_symbols, a_roles, a_derives, a_first, a_follow, a_textLength, a_kindAt, a_valueAt, a_failsAt, a_expectedAt, a_roleAt, a_scopeAt, a_openProduction, a_openNext, a_openStart, a_targetBefore⟩ := u
  obtain ⟨g_np, g_built, g_some, g_empty, g_wn, g_nt, b_pRule, b_pScope, b_pLen, b_sym, b_role, b_first, b_follow, b_kind, b_val, b_len, b_word, b_reach, b_beyond, b_way, b_known, b_bad, b_part, b_scopes, b_inner, b_tRule, b_tFrom, b_tTo, b_before⟩ := v
  have hY0 := hY
  have hX0 := hX
  obtain ⟨x1, x2, x3, x4, x5⟩ := hX
  obtain ⟨y1, y2, y3, y4⟩ := hY
  unfold wpX_expected wpY_expected
  dsimp only
  cases b with
  | false => exact br_t x1 (br_t y1 ⟨rfl, I0⟩)
  | true =>
    have hb : ¬ f_built = 0 := by rw [x1]; decide
    have hb' : ¬ g_built = 0 := by rw [y1]; decide
    have hG := hp.2.2.1 rfl
    refine br_f hb (xm_isf _ (fun hn => br_t rfl (br_f hb' (ym_isf _ (fun _ => br_t rfl ⟨rfl, I0⟩) (fun f hf e => absurd ⟨f, hf, e⟩ hn)))) (fun f hf e => br_f (by decide) ?_))
    subst e
    have l := hp.2.1.1 f hf
    have cF : (nI f).toNatClampNeg = f := nI_clamp (by omega)
    have iF : vp_in (nI f) 4 := vp_in_nI (by omega) (by omega)
    have nf : ¬ ¬ ∃ f', f' < 4 ∧ nI f = nI f' := fun h => h ⟨f, hf, rfl⟩
    rw [cF, x3.1 f hf, y3.1 f hf]
    refine br_c (fun h => br_f hb' (ym_isf _ (fun hn => absurd hn nf) (fun _ _ _ => br_f (by decide) (br_t h ⟨rfl, I0⟩)))) (fun h => ?_)
    obtain ⟨x, xl, e⟩ := nI_of h
    subst e
    refine ⟨iF, pk_le x (L f) (fun z => ?_) (fun z => br_f hb' (ym_isf _ (fun hn => absurd hn nf) (fun _ _ _ => br_f (by decide) (br_f h ⟨iF, br_f (nI_ge z (by omega)) ⟨rfl, I0⟩⟩))))⟩
    have cE : (nI (f * 21 + x)).toNatClampNeg = f * 21 + x := nI_clamp (by omega)
    rw [ba_x21, cE]
    refine ⟨vp_in_nI (by omega) (by omega), br_f hb' (ym_isf _ (fun hn => absurd hn nf) (fun _ _ _ => br_f (by decide) (br_f h ⟨iF, br_t (nI_le z (by omega)) ?_⟩)))⟩
    have hw := tx_wk hp.2.1 y3 hf
    refine ym_exp hG y2 (w := tx_w L K f) hf (by omega) (fun y hy => hw y (by omega)) _ (fun r wn WO RE BE WY hr => ⟨gm_ms_eq hr (((x4 rfl).2 f hf).1 x z), true, G, L, K, V, hp, hX0, y1, y2, y3, y4⟩)
end
section
/-! linking, pure; X's side -/
noncomputable def lq (P : Nat → Prop) : Nat → Nat → Nat
  | 0, k => k
  | d + 1, k => @ite Nat (P k) (Classical.propDecidable _) k (lq P d (k + 1))
theorem lq_t {P : Nat → Prop} {d k : Nat} (h : P k) : lq P (d + 1) k = k := if_pos h
theorem lq_f {P : Nat → Prop} {d k : Nat} (h : ¬ P k) : lq P (d + 1) k = lq P d (k + 1) := if_neg h
theorem lq_s {P : Nat → Prop} : ∀ d k, k ≤ lq P d k ∧ lq P d k ≤ k + d ∧ (lq P d k < k + d → P (lq P d k)) ∧ ∀ x, k ≤ x → x < lq P d k → ¬ P x
  | 0, k => ⟨Nat.le_refl _, Nat.le_refl _, fun h => absurd h (Nat.lt_irrefl _), fun x a b => by have b : x < k := b; omega⟩
  | d + 1, k => by
    rcases Classical.em (P k) with h | h
    · rw [lq_t h]
      exact ⟨Nat.le_refl _, by omega, fun _ => h, fun x a b => by omega⟩
    · rw [lq_f h]
      obtain ⟨a, b, c, e⟩ := lq_s (P := P) d (k + 1)
      refine ⟨by omega, by omega, fun z => c (by omega), fun x x1 x2 => ?_⟩
      rcases Nat.lt_or_ge k x with y | y
      · exact e x y x2
      · have q : x = k := by omega
        subst q; exact h
def lk_s (c : Nat) : Prop := c = 0 ∨ ∃ i j, i < j ∧ j ≤ 20 ∧ c = 32 * i + j
def lk_h (c x : Nat) : Prop := c = 0 ∨ (c / 32 ≤ x ∧ x < c % 32)
def lk_z (c : Nat) : Nat := if c = 0 then 21 else c % 32 - c / 32
def lk_c (R C W : Nat → Nat → Nat) (f x n y : Nat) : Prop := y < 20 ∧ R f y = 1 ∧ W f y = n ∧ lk_h (C f y) x
def lk_I (R C W : Nat → Nat → Nat) (f x n r : Nat) : Prop := (lk_c R C W f x n r ∧ ∀ y, lk_c R C W f x n y → lk_z (C f r) < lk_z (C f y) ∨ (lk_z (C f r) = lk_z (C f y) ∧ r ≤ y)) ∨ (r = 20 ∧ ∀ y, ¬ lk_c R C W f x n y)
theorem lk_Iu {R C W : Nat → Nat → Nat} {f x n r r' : Nat} (h : lk_I R C W f x n r) (h' : lk_I R C W f x n r') : r' = r := by
  rcases h with ⟨a, b⟩ | ⟨a, b⟩
  · rcases h' with ⟨a', b'⟩ | ⟨a', b'⟩
    · have q := b r' a'
      have q' := b' r a
      omega
    · exact absurd a (b' r)
  · rcases h' with ⟨a', b'⟩ | ⟨a', b'⟩
    · exact absurd a' (b r')
    · omega
noncomputable def lk_i (R C W : Nat → Nat → Nat) (f x n : Nat) : Nat := cl_pick (lk_I R C W f x n) 20
theorem lk_ie {R C W : Nat → Nat → Nat} {f x n r : Nat} (h : lk_I R C W f x n r) : lk_i R C W f x n = r := cl_t h (fun _ z => lk_Iu h z)
def lk_r (R C W : Nat → Nat → Nat) (g n x : Nat) : Prop := R g x = 1 ∧ W g x = n ∧ C g x = 0
noncomputable def lk_q (R C W : Nat → Nat → Nat) (g n : Nat) : Nat := lq (lk_r R C W g n) 20 0
def lk_a (R C W : Nat → Nat → Nat) (f n i : Nat) : Prop := R f i = 3 ∧ lk_q R C W (W f i % 4) n < 20
noncomputable def lk_e (R C W : Nat → Nat → Nat) (f n p : Nat) : Nat := if p < 20 then (W f p % 4) * 20 + lk_q R C W (W f p % 4) n else 80
noncomputable def lk_m (R C W : Nat → Nat → Nat) (f n : Nat) : Nat := lk_e R C W f n (lq (lk_a R C W f n) 20 0)
noncomputable def lk_t (R C W : Nat → Nat → Nat) (f x : Nat) : Nat := if lk_i R C W f x (W f x) < 20 then f * 20 + lk_i R C W f x (W f x) else lk_m R C W f (W f x)
/-- a place, or none at 80 -/
def pl_o (y : Nat) : Int32 := if y < 80 then nI y else -1
theorem pl_n {y : Nat} (h : y < 80) : ¬ nI y = -1 := fun z => by
  have := nI_pos' (n := y) (by omega)
  rw [z] at this
  exact absurd this (by decide)
theorem lk_c1 {c : Nat} (h : c < 2 ^ 31) : nI c - 1 = -1 ↔ c = 0 := by
  constructor
  · intro z
    rcases Nat.eq_zero_or_pos c with q | q
    · exact q
    · rw [ba_m1 q] at z
      have := nI_pos' (n := c - 1) (by omega)
      rw [z] at this
      exact absurd this (by decide)
  · intro z
    subst z; rfl
theorem lk_c2 {a b : Nat} (ha : a < 2 ^ 31) (hb : b < 2 ^ 31) : nI a - 1 = nI b - 1 ↔ a = b := by
  constructor
  · intro z
    have : nI a = nI b := by
      have := congrArg (fun t => t + 1) z
      simpa using this
    exact (nI_eq ha hb).mp this
  · intro z; rw [z]
theorem lk_s1 {c : Nat} (h : lk_s c) : c < 700 := by
  rcases h with h | ⟨i, j, a, b, e⟩ <;> omega
theorem lk_qs (R C W : Nat → Nat → Nat) (g n : Nat) : lk_q R C W g n ≤ 20 ∧ (lk_q R C W g n < 20 → lk_r R C W g n (lk_q R C W g n)) := by
  obtain ⟨a, b, c, d⟩ := lq_s (P := lk_r R C W g n) 20 0
  exact ⟨by unfold lk_q; omega, fun h => c (by unfold lk_q at h; omega)⟩
theorem lk_m80 (R C W : Nat → Nat → Nat) (f n : Nat) : lk_m R C W f n ≤ 80 := by
  obtain ⟨a, b, c, d⟩ := lq_s (P := lk_a R C W f n) 20 0
  unfold lk_m lk_e
  split
  · next h =>
    have := (c (by omega)).2
    omega
  · omega
theorem lk_t80 {R C W : Nat → Nat → Nat} {f x : Nat} (hf : f < 4) : lk_t R C W f x ≤ 80 := by
  unfold lk_t
  split
  · omega
  · exact lk_m80 _ _ _ _ _
def xl_ok (R C W : Nat → Nat → Nat) (RO SC VA : Nat → Int32) : Prop := (∀ f x, f < 4 → x < 20 → RO (f * 20 + x) = nI (R f x) ∧ R f x < 4 ∧ VA (f * 20 + x) = nI (W f x) ∧ W f x < 16) ∧ ((∃ f x, f < 4 ∧ x < 20 ∧ ¬ R f x = 0) → ∀ f x, f < 4 → x < 20 → SC (f * 20 + x) = nI (C f x) - 1 ∧ lk_s (C f x))
section
variable {f_built f_productionCount f_depth : Int32} {a_ruleOf a_marked a_symbolCount a_symbols a_roles a_derives a_first a_follow a_textLength a_kindAt a_valueAt a_failsAt a_expectedAt a_roleAt a_scopeAt a_openProduction a_openNext a_openStart a_targetBefore : Nat → Int32} {R C W : Nat → Nat → Nat}
theorem xl_fpb {f x : Nat} (hf : f < 4) (hx : x < 20) (post : Int32 → Prop) (h : post (nI (f * 20))) : wpX_firstPlaceBeside post (nI (f * 20 + x)) := by
  refine ⟨by decide, ?_⟩
  rw [show (20 : Int32) = nI 20 from rfl, pk_rem (by omega) (by omega) (by omega), pk_sub (Nat.mod_le _ _)]
  rw [show f * 20 + x - (f * 20 + x) % 20 = f * 20 from by omega]
  exact h
theorem xl_c17 (hl : xl_ok R C W a_roleAt a_scopeAt a_valueAt) {f r : Nat} (hf : f < 4) (hr : r < 4) (post : Int32 → Prop) (hP : post (nI (cn (fun x => R f x = r) 20))) :
    ∀ d x, x + d = 20 → wX_countRole_17 post (nI f) (nI r) f_built f_productionCount f_depth a_ruleOf a_marked a_symbolCount a_symbols a_roles a_derives a_first a_follow a_textLength a_kindAt a_valueAt a_failsAt a_expectedAt a_roleAt a_scopeAt a_openProduction a_openNext a_openStart a_targetBefore (d + 1) (nI (cn (fun x => R f x = r) x)) (nI (f * 20 + x)) := by
  intro d
  induction d with
  | zero =>
    intro x hx
    have e : x = 20 := by omega
    subst e
    rw [wX_countRole_17]
    dsimp only
    rw [ba_20, ba_p20]
    exact br_t (nI_le (by omega) (by omega)) hP
  | succ d ih =>
    intro x hx
    obtain ⟨h1, h2, _, _⟩ := hl.1 f x hf (by omega)
    have cI : (nI (f * 20 + x)).toNatClampNeg = f * 20 + x := nI_clamp (by omega)
    rw [wX_countRole_17]
    dsimp only
    rw [ba_20, ba_p20, cI, h1]
    refine br_f (nI_ge (by omega) (by omega)) ⟨vp_in_nI (by omega) (by omega), pk_eq (R f x) r (fun e => nm_r (nI_1 _) (nm_r (nI_1 _) ?_)) (fun e => nm_r (nI_1 _) ?_)⟩
    · have q := ih (x + 1) (by omega)
      rw [show cn (fun x => R f x = r) (x + 1) = cn (fun x => R f x = r) x + b01 (R f x = r) from rfl, b01_t e] at q
      exact q
    · have q := ih (x + 1) (by omega)
      rw [show cn (fun x => R f x = r) (x + 1) = cn (fun x => R f x = r) x + b01 (R f x = r) from rfl, b01_f e, Nat.add_zero] at q
      exact q
theorem xl_count (hl : xl_ok R C W a_roleAt a_scopeAt a_valueAt) {v1 : Int32} {r : Nat} (hr : r < 4) (post : Int32 → Prop) (h0 : (¬ ∃ f, f < 4 ∧ v1 = nI f) → post 0) (h1 : ∀ f, f < 4 → v1 = nI f → post (nI (cn (fun x => R f x = r) 20))) : wpX_countRole post (f_built, f_productionCount, f_depth, a_ruleOf, a_marked, a_symbolCount, a_symbols, a_roles, a_derives, a_first, a_follow, a_textLength, a_kindAt, a_valueAt, a_failsAt, a_expectedAt, a_roleAt, a_scopeAt, a_openProduction, a_openNext, a_openStart, a_targetBefore) v1 (nI r) := by
  unfold wpX_countRole
  dsimp only
  refine xm_isf _ (fun hn => br_t rfl (h0 hn)) (fun f hf e => br_f (by decide) ?_)
  subst e
  exact nm_r (ba_20 f) ⟨20 + 1, xl_c17 hl hf hr post (h1 f hf rfl) 20 0 (by omega)⟩
/-- the k-th of a role -/
def lk_p (R : Nat → Nat → Nat) (f r : Nat) (v : Int32) (x : Nat) : Prop := x < 20 ∧ R f x = r ∧ v = nI (cn (fun x => R f x = r) x)
theorem xl_p18 (hl : xl_ok R C W a_roleAt a_scopeAt a_valueAt) {f r : Nat} {v : Int32} (hf : f < 4) (hr : r < 4) (post : Int32 → Prop) (hP1 : ∀ x, lk_p R f r v x → post (nI (f * 20 + x))) (hP0 : (∀ x, ¬ lk_p R f r v x) → post (-1)) :
    ∀ d x, x + d = 20 → (∀ y, y < x → ¬ lk_p R f r v y) → wX_placeOf_18 post (nI f) (nI r) v f_built f_productionCount f_depth a_ruleOf a_marked a_symbolCount a_symbols a_roles a_derives a_first a_follow a_textLength a_kindAt a_valueAt a_failsAt a_expectedAt a_roleAt a_scopeAt a_openProduction a_openNext a_openStart a_targetBefore (d + 1) (nI (cn (fun x => R f x = r) x)) (nI (f * 20 + x)) := by
  intro d
  induction d with
  | zero =>
    intro x hx hI
    have e : x = 20 := by omega
    subst e
    rw [wX_placeOf_18]
    dsimp only
    rw [ba_20, ba_p20]
    exact br_t (nI_le (by omega) (by omega)) (hP0 (fun y z => hI y z.1 z))
  | succ d ih =>
    intro x hx hI
    obtain ⟨h1, h2, _, _⟩ := hl.1 f x hf (by omega)
    have cI : (nI (f * 20 + x)).toNatClampNeg = f * 20 + x := nI_clamp (by omega)
    have nx : ¬ lk_p R f r v x → ∀ y, y < x + 1 → ¬ lk_p R f r v y := fun h y hy => by
      rcases Nat.lt_or_ge y x with z | z
      · exact hI y z
      · have e : y = x := by omega
        subst e; exact h
    rw [wX_placeOf_18]
    dsimp only
    rw [ba_20, ba_p20, cI, h1]
    refine br_f (nI_ge (by omega) (by omega)) ⟨vp_in_nI (by omega) (by omega), pk_eq (R f x) r (fun e => br_c (fun e2 => hP1 x ⟨by omega, e, e2.symm⟩) (fun e2 => nm_r (nI_1 _) (nm_r (nI_1 _) ?_))) (fun e => nm_r (nI_1 _) ?_)⟩
    · have q := ih (x + 1) (by omega) (nx (fun z => e2 z.2.2.symm))
      rw [show cn (fun x => R f x = r) (x + 1) = cn (fun x => R f x = r) x + b01 (R f x = r) from rfl, b01_t e] at q
      exact q
    · have q := ih (x + 1) (by omega) (nx (fun z => e z.2.1))
      rw [show cn (fun x => R f x = r) (x + 1) = cn (fun x => R f x = r) x + b01 (R f x = r) from rfl, b01_f e, Nat.add_zero] at q
      exact q
theorem xl_place (hl : xl_ok R C W a_roleAt a_scopeAt a_valueAt) {v1 v2 : Int32} {r : Nat} (hr : r < 4) (post : Int32 → Prop) (hP0 : (¬ ∃ f x, f < 4 ∧ v1 = nI f ∧ lk_p R f r v2 x) → post (-1)) (hP1 : ∀ f x, f < 4 → v1 = nI f → lk_p R f r v2 x → post (nI (f * 20 + x))) : wpX_placeOf post (f_built, f_productionCount, f_depth, a_ruleOf, a_marked, a_symbolCount, a_symbols, a_roles, a_derives, a_first, a_follow, a_textLength, a_kindAt, a_valueAt, a_failsAt, a_expectedAt, a_roleAt, a_scopeAt, a_openProduction, a_openNext, a_openStart, a_targetBefore) v1 (nI r) v2 := by
  unfold wpX_placeOf
  dsimp only
  refine xm_isf _ (fun hn => br_t rfl (hP0 (fun ⟨f, x, a, b, _⟩ => hn ⟨f, a, b⟩))) (fun f hf e => br_f (by decide) ?_)
  subst e
  refine nm_r (ba_20 f) ⟨20 + 1, xl_p18 hl hf hr post (fun x h => hP1 f x hf rfl h) (fun h => hP0 (fun ⟨f', x, a, b, c⟩ => ?_)) 20 0 (by omega) (fun y h => by omega)⟩
  have e := (nI_eq (by omega) (by omega)).mp b
  subst e
  exact h x c
theorem xl_def (hl : xl_ok R C W a_roleAt a_scopeAt a_valueAt) {f x n : Nat} (hf : f < 4) (hx : x < 20) (hn : n < 16) (post : Int32 → Prop) (h1 : R f x = 1 → W f x = n → post 1) (h0 : ¬ (R f x = 1 ∧ W f x = n) → post 0) : wpX_defines post (f_built, f_productionCount, f_depth, a_ruleOf, a_marked, a_symbolCount, a_symbols, a_roles, a_derives, a_first, a_follow, a_textLength, a_kindAt, a_valueAt, a_failsAt, a_expectedAt, a_roleAt, a_scopeAt, a_openProduction, a_openNext, a_openStart, a_targetBefore) (nI (f * 20 + x)) (nI n) := by
  obtain ⟨a1, a2, a3, a4⟩ := hl.1 f x hf hx
  have cI : (nI (f * 20 + x)).toNatClampNeg = f * 20 + x := nI_clamp (by omega)
  have iI : vp_in (nI (f * 20 + x)) 80 := vp_in_nI (by omega) (by omega)
  unfold wpX_defines
  dsimp only
  rw [cI, a1, a3]
  exact ⟨iI, pk_eq (R f x) 1 (fun e => ⟨iI, pk_eq (W f x) n (fun e2 => h1 e e2) (fun e2 => h0 (fun z => e2 z.2))⟩) (fun e => h0 (fun z => e z.1))⟩
theorem xl_holds {c x : Nat} (hc : lk_s c) (hx : x < 20) (post : Int32 → Prop) (h1 : lk_h c x → post 1) (h0 : ¬ lk_h c x → post 0) : wpX_scopeHolds post (nI c - 1) (nI x) := by
  have c7 := lk_s1 hc
  unfold wpX_scopeHolds
  refine ek_if (lk_c1 (by omega)) (fun z => h1 (Or.inl z)) (fun z => ⟨by decide, ?_⟩)
  obtain ⟨i, j, a, b, e⟩ := hc.elim (fun y => absurd y z) id
  subst e
  have e1 : (32 * i + j - 1) / 32 = i := by omega
  have e2 : (32 * i + j - 1) % 32 = j - 1 := by omega
  rw [ba_m1 (by omega), show (32 : Int32) = nI 32 from rfl, pk_rem (by omega) (by omega) (by omega), pk_div (by omega) (by omega) (by omega), e1, e2]
  have h32 : ¬ nI 32 = 0 := by decide
  refine pk_lt x i (fun y => h0 (fun q => ?_)) (fun y => ⟨h32, pk_lt (j - 1) x (fun y2 => h0 (fun q => ?_)) (fun y2 => h1 (Or.inr ⟨by omega, by omega⟩))⟩)
  · rcases q with q | q <;> omega
  · rcases q with q | q <;> omega
theorem xl_size {c : Nat} (hc : lk_s c) (post : Int32 → Prop) (h : post (nI (lk_z c))) : wpX_scopeSize post (nI c - 1) := by
  have c7 := lk_s1 hc
  unfold wpX_scopeSize
  refine ek_if (lk_c1 (by omega)) (fun z => ?_) (fun z => ⟨by decide, by decide, ?_⟩)
  · subst z; exact h
  · obtain ⟨i, j, a, b, e⟩ := hc.elim (fun y => absurd y z) id
    have e1 : (32 * i + j - 1) / 32 = i := by omega
    have e2 : (32 * i + j - 1) % 32 = j - 1 := by omega
    have e3 : lk_z c = j - 1 - i + 1 := by
      unfold lk_z
      rw [if_neg z]
      omega
    rw [e3] at h
    subst e
    rw [ba_m1 (by omega), show (32 : Int32) = nI 32 from rfl, pk_rem (by omega) (by omega) (by omega), pk_div (by omega) (by omega) (by omega), e1, e2, pk_sub (by omega), nI_1]
    exact h
theorem lk_z22 {c : Nat} (h : lk_s c) : lk_z c ≤ 21 := by
  unfold lk_z
  rcases h with h | ⟨i, j, a, b, e⟩
  · rw [if_pos h]; omega
  · split <;> omega
theorem xl_tf14 (hl : xl_ok R C W a_roleAt a_scopeAt a_valueAt) {f x : Nat} (hf : f < 4) (hx : x < 20) (hSC : ∀ f x, f < 4 → x < 20 → a_scopeAt (f * 20 + x) = nI (C f x) - 1 ∧ lk_s (C f x)) (post : Int32 → Prop) (hP : ∀ r, lk_I R C W f x (W f x) r → post (if r < 20 then nI (f * 20 + r) else -1)) :
    ∀ d k x3 x4, k + d = 20 → (x3 = -1 ∧ x4 = nI 22 ∧ (∀ y, y < k → ¬ lk_c R C W f x (W f x) y) ∨ ∃ r, r < k ∧ lk_c R C W f x (W f x) r ∧ x3 = nI (f * 20 + r) ∧ x4 = nI (lk_z (C f r)) ∧ ∀ y, y < k → lk_c R C W f x (W f x) y → lk_z (C f r) < lk_z (C f y) ∨ (lk_z (C f r) = lk_z (C f y) ∧ r ≤ y)) → wX_targetInFile_14 post (nI (f * 20 + x)) (nI (f * 20)) f_built f_productionCount f_depth a_ruleOf a_marked a_symbolCount a_symbols a_roles a_derives a_first a_follow a_textLength a_kindAt a_valueAt a_failsAt a_expectedAt a_roleAt a_scopeAt a_openProduction a_openNext a_openStart a_targetBefore (d + 1) x3 x4 (nI (f * 20 + k)) := by
  have cX : (nI (f * 20 + x)).toNatClampNeg = f * 20 + x := nI_clamp (by omega)
  have iX : vp_in (nI (f * 20 + x)) 80 := vp_in_nI (by omega) (by omega)
  obtain ⟨_, _, w1, w2⟩ := hl.1 f x hf hx
  intro d
  induction d with
  | zero =>
    intro k x3 x4 hk hI
    have e : k = 20 := by omega
    subst e
    rw [wX_targetInFile_14]
    dsimp only
    rw [ba_p20]
    refine br_t (nI_le (by omega) (by omega)) ?_
    rcases hI with ⟨a, _, c⟩ | ⟨r, a, b, c, _, e⟩
    · have := hP 20 (Or.inr ⟨rfl, fun y z => c y z.1 z⟩)
      rw [if_neg (by omega)] at this
      rw [a]; exact this
    · have := hP r (Or.inl ⟨b, fun y z => e y z.1 z⟩)
      rw [if_pos a] at this
      rw [c]; exact this
  | succ d ih =>
    intro k x3 x4 hk hI
    obtain ⟨s1, s2⟩ := hSC f k hf (by omega)
    have cK : (nI (f * 20 + k)).toNatClampNeg = f * 20 + k := nI_clamp (by omega)
    have iK : vp_in (nI (f * 20 + k)) 80 := vp_in_nI (by omega) (by omega)
    have z21 := lk_z22 s2
    -- not a candidate
    have skip : ¬ lk_c R C W f x (W f x) k → wX_targetInFile_14 post (nI (f * 20 + x)) (nI (f * 20)) f_built f_productionCount f_depth a_ruleOf a_marked a_symbolCount a_symbols a_roles a_derives a_first a_follow a_textLength a_kindAt a_valueAt a_failsAt a_expectedAt a_roleAt a_scopeAt a_openProduction a_openNext a_openStart a_targetBefore (d + 1) x3 x4 (nI (f * 20 + (k + 1))) := by
      intro h
      refine ih (k + 1) x3 x4 (by omega) ?_
      have nx : ∀ y, y < k + 1 → lk_c R C W f x (W f x) y → y < k := fun y hy z => by
        rcases Nat.lt_or_ge y k with q | q
        · exact q
        · have e : y = k := by omega
          subst e; exact absurd z h
      rcases hI with ⟨a, b, c⟩ | ⟨r, a, b, c, e, g⟩
      · exact Or.inl ⟨a, b, fun y hy z => c y (nx y hy z) z⟩
      · exact Or.inr ⟨r, by omega, b, c, e, fun y hy z => g y (nx y hy z) z⟩
    rw [wX_targetInFile_14]
    dsimp only
    rw [ba_p20, cX, w1, cK, s1, pk_sub (show f * 20 ≤ f * 20 + x from by omega), Nat.add_sub_cancel_left]
    refine br_f (nI_ge (by omega) (by omega)) ⟨iX, xl_def hl hf (by omega) w2 _ (fun d1 d2 => br_f (by decide) ⟨iK, xl_holds s2 hx _ (fun h => br_f (by decide) ⟨iK, xl_size s2 _ ?_⟩) (fun h => br_t rfl (nm_r (nI_1 _) (skip (fun z => h z.2.2.2))))⟩) (fun h => br_t rfl (nm_r (nI_1 _) (skip (fun z => h ⟨z.2.1, z.2.2.1⟩))))⟩
    have hc : lk_c R C W f x (W f x) k := ⟨by omega, d1, d2, h⟩
    rcases hI with ⟨a, b, c⟩ | ⟨r, a, b, c, e, g⟩
    · refine br_f (by rw [b]; exact nI_ge (by omega) (by omega)) (nm_r (nI_1 _) (ih (k + 1) _ _ (by omega) (Or.inr ⟨k, by omega, hc, rfl, rfl, fun y hy z => ?_⟩)))
      rcases Nat.lt_or_ge y k with q | q
      · exact absurd z (c y q)
      · have e : y = k := by omega
        subst e; exact Or.inr ⟨rfl, Nat.le_refl _⟩
    · have zr := lk_z22 (hSC f r hf (by omega)).2
      rw [e]
      refine pk_le (lk_z (C f r)) (lk_z (C f k)) (fun q => nm_r (nI_1 _) (ih (k + 1) _ _ (by omega) (Or.inr ⟨r, by omega, b, c, rfl, fun y hy z => ?_⟩))) (fun q => nm_r (nI_1 _) (ih (k + 1) _ _ (by omega) (Or.inr ⟨k, by omega, hc, rfl, rfl, fun y hy z => ?_⟩)))
      · rcases Nat.lt_or_ge y k with t | t
        · exact g y t z
        · have e : y = k := by omega
          subst e; omega
      · rcases Nat.lt_or_ge y k with t | t
        · have := g y t z
          omega
        · have e : y = k := by omega
          subst e; exact Or.inr ⟨rfl, Nat.le_refl _⟩
theorem xl_tf (hl : xl_ok R C W a_roleAt a_scopeAt a_valueAt) {f x : Nat} (hf : f < 4) (hx : x < 20) (hSC : ∀ f x, f < 4 → x < 20 → a_scopeAt (f * 20 + x) = nI (C f x) - 1 ∧ lk_s (C f x)) (post : Int32 → Prop) (hP : ∀ r, lk_I R C W f x (W f x) r → post (if r < 20 then nI (f * 20 + r) else -1)) : wpX_targetInFile post (f_built, f_productionCount, f_depth, a_ruleOf, a_marked, a_symbolCount, a_symbols, a_roles, a_derives, a_first, a_follow, a_textLength, a_kindAt, a_valueAt, a_failsAt, a_expectedAt, a_roleAt, a_scopeAt, a_openProduction, a_openNext, a_openStart, a_targetBefore) (nI (f * 20 + x)) := by
  unfold wpX_targetInFile
  dsimp only
  exact xl_fpb hf hx _ ⟨20 + 1, xl_tf14 hl hf hx hSC post hP 20 0 (-1) (nI 22) (by omega) (Or.inl ⟨rfl, rfl, fun y h => by omega⟩)⟩
theorem xl_r5 (hl : xl_ok R C W a_roleAt a_scopeAt a_valueAt) {g n : Nat} (hg : g < 4) (hn : n < 16) (hSC : ∀ f x, f < 4 → x < 20 → a_scopeAt (f * 20 + x) = nI (C f x) - 1 ∧ lk_s (C f x)) (post : Int32 → Prop) :
    ∀ d k, k + d = 20 → (∀ q, q = lq (lk_r R C W g n) d k → post (if q < 20 then nI (g * 20 + q) else -1)) → wX_firstInRoot_5 post (nI g) (nI n) f_built f_productionCount f_depth a_ruleOf a_marked a_symbolCount a_symbols a_roles a_derives a_first a_follow a_textLength a_kindAt a_valueAt a_failsAt a_expectedAt a_roleAt a_scopeAt a_openProduction a_openNext a_openStart a_targetBefore (d + 1) (nI (g * 20 + k)) := by
  intro d
  induction d with
  | zero =>
    intro k hk hP
    have e : k = 20 := by omega
    subst e
    have := hP 20 rfl
    rw [if_neg (by omega)] at this
    rw [wX_firstInRoot_5]
    dsimp only
    rw [ba_20, ba_p20]
    exact br_t (nI_le (by omega) (by omega)) this
  | succ d ih =>
    intro k hk hP
    obtain ⟨s1, s2⟩ := hSC g k hg (by omega)
    have c7 := lk_s1 s2
    have cK : (nI (g * 20 + k)).toNatClampNeg = g * 20 + k := nI_clamp (by omega)
    have skip : ¬ lk_r R C W g n k → wX_firstInRoot_5 post (nI g) (nI n) f_built f_productionCount f_depth a_ruleOf a_marked a_symbolCount a_symbols a_roles a_derives a_first a_follow a_textLength a_kindAt a_valueAt a_failsAt a_expectedAt a_roleAt a_scopeAt a_openProduction a_openNext a_openStart a_targetBefore (d + 1) (nI (g * 20 + (k + 1))) := fun h => ih (k + 1) (by omega) (fun q e => hP q (by rw [lq_f h]; exact e))
    rw [wX_firstInRoot_5]
    dsimp only
    rw [ba_20, ba_p20, cK, s1]
    refine br_f (nI_ge (by omega) (by omega)) ⟨vp_in_nI (by omega) (by omega), ek_if (lk_c1 (by omega)) (fun z => xl_def hl hg (by omega) hn _ (fun d1 d2 => br_f (by decide) ?_) (fun h => br_t rfl (nm_r (nI_1 _) (skip (fun y => h ⟨y.1, y.2.1⟩))))) (fun z => nm_r (nI_1 _) (skip (fun y => z y.2.2)))⟩
    have := hP k (lq_t ⟨d1, d2, z⟩).symm
    rw [if_pos (by omega)] at this
    exact this
theorem xl_fr (hl : xl_ok R C W a_roleAt a_scopeAt a_valueAt) {g n : Nat} (hg : g < 4) (hn : n < 16) (hSC : ∀ f x, f < 4 → x < 20 → a_scopeAt (f * 20 + x) = nI (C f x) - 1 ∧ lk_s (C f x)) (post : Int32 → Prop) (hP : post (if lk_q R C W g n < 20 then nI (g * 20 + lk_q R C W g n) else -1)) : wpX_firstInRoot post (f_built, f_productionCount, f_depth, a_ruleOf, a_marked, a_symbolCount, a_symbols, a_roles, a_derives, a_first, a_follow, a_textLength, a_kindAt, a_valueAt, a_failsAt, a_expectedAt, a_roleAt, a_scopeAt, a_openProduction, a_openNext, a_openStart, a_targetBefore) (nI g) (nI n) := by
  unfold wpX_firstInRoot
  dsimp only
  exact nm_r (ba_20 g) ⟨20 + 1, xl_r5 hl hg hn hSC post 20 0 (by omega) (fun q e => by subst e; exact hP)⟩
theorem xl_i7 (hl : xl_ok R C W a_roleAt a_scopeAt a_valueAt) {f x : Nat} (hf : f < 4) (hx : x < 20) (hSC : ∀ f x, f < 4 → x < 20 → a_scopeAt (f * 20 + x) = nI (C f x) - 1 ∧ lk_s (C f x)) (post : Int32 → Prop) :
    ∀ d k, k + d = 20 → (∀ q, q = lq (lk_a R C W f (W f x)) d k → post (pl_o (lk_e R C W f (W f x) q))) → wX_targetInImports_7 post (nI (f * 20 + x)) (nI (f * 20)) f_built f_productionCount f_depth a_ruleOf a_marked a_symbolCount a_symbols a_roles a_derives a_first a_follow a_textLength a_kindAt a_valueAt a_failsAt a_expectedAt a_roleAt a_scopeAt a_openProduction a_openNext a_openStart a_targetBefore (d + 1) (nI (f * 20 + k)) := by
  have cX : (nI (f * 20 + x)).toNatClampNeg = f * 20 + x := nI_clamp (by omega)
  have iX : vp_in (nI (f * 20 + x)) 80 := vp_in_nI (by omega) (by omega)
  obtain ⟨_, _, w1, w2⟩ := hl.1 f x hf hx
  intro d
  induction d with
  | zero =>
    intro k hk hP
    have e : k = 20 := by omega
    subst e
    have := hP 20 rfl
    unfold lk_e pl_o at this
    rw [if_neg (show ¬ (20 < 20) from by omega), if_neg (by omega)] at this
    rw [wX_targetInImports_7]
    dsimp only
    rw [ba_p20]
    exact br_t (nI_le (by omega) (by omega)) this
  | succ d ih =>
    intro k hk hP
    obtain ⟨a1, a2, a3, a4⟩ := hl.1 f k hf (by omega)
    have cK : (nI (f * 20 + k)).toNatClampNeg = f * 20 + k := nI_clamp (by omega)
    have iK : vp_in (nI (f * 20 + k)) 80 := vp_in_nI (by omega) (by omega)
    have skip : ¬ lk_a R C W f (W f x) k → wX_targetInImports_7 post (nI (f * 20 + x)) (nI (f * 20)) f_built f_productionCount f_depth a_ruleOf a_marked a_symbolCount a_symbols a_roles a_derives a_first a_follow a_textLength a_kindAt a_valueAt a_failsAt a_expectedAt a_roleAt a_scopeAt a_openProduction a_openNext a_openStart a_targetBefore (d + 1) (nI (f * 20 + (k + 1))) := fun h => ih (k + 1) (by omega) (fun q e => hP q (by rw [lq_f h]; exact e))
    rw [wX_targetInImports_7]
    dsimp only
    rw [ba_p20, cK, a1, a3, cX, w1, show (4 : Int32) = nI 4 from rfl, pk_rem (by omega) (by omega) (by omega)]
    refine br_f (nI_ge (by omega) (by omega)) ⟨iK, pk_eq (R f k) 3 (fun e => ⟨iK, by decide, iX, xl_fr hl (by omega) w2 hSC _ ?_⟩) (fun e => nm_r (nI_1 _) (skip (fun z => e z.1)))⟩
    rcases Nat.lt_or_ge (lk_q R C W (W f k % 4) (W f x)) 20 with z | z
    · rw [if_pos z]
      have := hP k (lq_t ⟨e, z⟩).symm
      unfold lk_e pl_o at this
      rw [if_pos (show k < 20 from by omega), if_pos (by omega)] at this
      exact br_f (pl_n (by omega)) this
    · rw [if_neg (by omega)]
      exact br_t rfl (nm_r (nI_1 _) (skip (fun y => by have := y.2; omega)))
theorem xl_tp (hl : xl_ok R C W a_roleAt a_scopeAt a_valueAt) {f x : Nat} (hf : f < 4) (hx : x < 20) (post : Int32 → Prop) (h0 : ¬ R f x = 2 → post (-1)) (h1 : R f x = 2 → post (pl_o (lk_t R C W f x))) : wpX_targetPlace post (f_built, f_productionCount, f_depth, a_ruleOf, a_marked, a_symbolCount, a_symbols, a_roles, a_derives, a_first, a_follow, a_textLength, a_kindAt, a_valueAt, a_failsAt, a_expectedAt, a_roleAt, a_scopeAt, a_openProduction, a_openNext, a_openStart, a_targetBefore) (nI (f * 20 + x)) := by
  obtain ⟨a1, a2, a3, a4⟩ := hl.1 f x hf hx
  have cX : (nI (f * 20 + x)).toNatClampNeg = f * 20 + x := nI_clamp (by omega)
  have iX : vp_in (nI (f * 20 + x)) 80 := vp_in_nI (by omega) (by omega)
  unfold wpX_targetPlace
  dsimp only
  rw [cX, a1]
  refine ⟨iX, pk_eq (R f x) 2 (fun e => ?_) (fun e => h0 e)⟩
  have h1 := h1 e
  have hSC := hl.2 ⟨f, x, hf, hx, by omega⟩
  refine xl_tf hl hf hx hSC _ (fun r hr => ?_)
  unfold lk_t at h1
  rw [lk_ie hr] at h1
  rcases Nat.lt_or_ge r 20 with z | z
  · rw [if_pos z] at h1 ⊢
    unfold pl_o at h1
    rw [if_pos (by omega)] at h1
    exact br_f (pl_n (by omega)) h1
  · rw [if_neg (by omega)] at h1 ⊢
    refine br_t rfl ?_
    unfold wpX_targetInImports
    dsimp only
    exact xl_fpb hf hx _ ⟨20 + 1, xl_i7 hl hf hx hSC _ 20 0 (by omega) (fun q e => by subst e; exact h1)⟩
theorem xl_dn7 (hl : xl_ok R C W a_roleAt a_scopeAt a_valueAt) {f x : Nat} (hf : f < 4) (hx : x < 20) (post : Int32 → Prop) (hP : post (nI (cn (fun y => R f y = 1) x))) :
    ∀ d k, k + d = x → wX_definitionNumber_7 post (nI (f * 20 + x)) f_built f_productionCount f_depth a_ruleOf a_marked a_symbolCount a_symbols a_roles a_derives a_first a_follow a_textLength a_kindAt a_valueAt a_failsAt a_expectedAt a_roleAt a_scopeAt a_openProduction a_openNext a_openStart a_targetBefore (d + 1) (nI (cn (fun y => R f y = 1) k)) (nI (f * 20 + k)) := by
  intro d
  induction d with
  | zero =>
    intro k hk
    have e : k = x := by omega
    subst e
    rw [wX_definitionNumber_7]
    dsimp only
    exact br_t (nI_le (by omega) (by omega)) hP
  | succ d ih =>
    intro k hk
    obtain ⟨a1, a2, a3, a4⟩ := hl.1 f k hf (by omega)
    have cK : (nI (f * 20 + k)).toNatClampNeg = f * 20 + k := nI_clamp (by omega)
    rw [wX_definitionNumber_7]
    dsimp only
    rw [cK, a1]
    refine br_f (nI_ge (by omega) (by omega)) ⟨vp_in_nI (by omega) (by omega), pk_eq (R f k) 1 (fun e => nm_r (nI_1 _) (nm_r (nI_1 _) ?_)) (fun e => nm_r (nI_1 _) ?_)⟩
    · have q := ih (k + 1) (by omega)
      rw [show cn (fun y => R f y = 1) (k + 1) = cn (fun y => R f y = 1) k + b01 (R f k = 1) from rfl, b01_t e] at q
      exact q
    · have q := ih (k + 1) (by omega)
      rw [show cn (fun y => R f y = 1) (k + 1) = cn (fun y => R f y = 1) k + b01 (R f k = 1) from rfl, b01_f e, Nat.add_zero] at q
      exact q
theorem xl_dn (hl : xl_ok R C W a_roleAt a_scopeAt a_valueAt) {f x : Nat} (hf : f < 4) (hx : x < 20) (post : Int32 → Prop) (hP : post (nI (cn (fun y => R f y = 1) x))) : wpX_definitionNumber post (f_built, f_productionCount, f_depth, a_ruleOf, a_marked, a_symbolCount, a_symbols, a_roles, a_derives, a_first, a_follow, a_textLength, a_kindAt, a_valueAt, a_failsAt, a_expectedAt, a_roleAt, a_scopeAt, a_openProduction, a_openNext, a_openStart, a_targetBefore) (nI (f * 20 + x)) := by
  unfold wpX_definitionNumber
  dsimp only
  exact xl_fpb hf hx _ ⟨x + 1, xl_dn7 hl hf hx post hP x 0 (by omega)⟩
/-! duplicates -/
def lk_u (R C W : Nat → Nat → Nat) (f x : Nat) : Prop := R f x = 1 ∧ ∃ y, y < x ∧ R f y = 1 ∧ C f y = C f x ∧ W f y = W f x
theorem xl_re5 (hl : xl_ok R C W a_roleAt a_scopeAt a_valueAt) {f x : Nat} (hf : f < 4) (hx : x < 20) (hSC : ∀ f x, f < 4 → x < 20 → a_scopeAt (f * 20 + x) = nI (C f x) - 1 ∧ lk_s (C f x)) (post : Int32 → Prop) (h1 : (∃ y, y < x ∧ R f y = 1 ∧ C f y = C f x ∧ W f y = W f x) → post 1) (h0 : (¬ ∃ y, y < x ∧ R f y = 1 ∧ C f y = C f x ∧ W f y = W f x) → post 0) :
    ∀ d k, k + d = x → (∀ y, y < k → ¬ (R f y = 1 ∧ C f y = C f x ∧ W f y = W f x)) → wX_repeatsEarlier_5 post (nI (f * 20 + x)) f_built f_productionCount f_depth a_ruleOf a_marked a_symbolCount a_symbols a_roles a_derives a_first a_follow a_textLength a_kindAt a_valueAt a_failsAt a_expectedAt a_roleAt a_scopeAt a_openProduction a_openNext a_openStart a_targetBefore (d + 1) (nI (f * 20 + k)) := by
  have cX : (nI (f * 20 + x)).toNatClampNeg = f * 20 + x := nI_clamp (by omega)
  have iX : vp_in (nI (f * 20 + x)) 80 := vp_in_nI (by omega) (by omega)
  obtain ⟨_, _, w1, w2⟩ := hl.1 f x hf hx
  obtain ⟨t1, t2⟩ := hSC f x hf hx
  have t7 := lk_s1 t2
  intro d
  induction d with
  | zero =>
    intro k hk hI
    have e : k = x := by omega
    subst e
    rw [wX_repeatsEarlier_5]
    dsimp only
    exact br_t (nI_le (by omega) (by omega)) (h0 (fun ⟨y, a, b⟩ => hI y a b))
  | succ d ih =>
    intro k hk hI
    obtain ⟨s1, s2⟩ := hSC f k hf (by omega)
    have s7 := lk_s1 s2
    have cK : (nI (f * 20 + k)).toNatClampNeg = f * 20 + k := nI_clamp (by omega)
    have iK : vp_in (nI (f * 20 + k)) 80 := vp_in_nI (by omega) (by omega)
    have skip : ¬ (R f k = 1 ∧ C f k = C f x ∧ W f k = W f x) → wX_repeatsEarlier_5 post (nI (f * 20 + x)) f_built f_productionCount f_depth a_ruleOf a_marked a_symbolCount a_symbols a_roles a_derives a_first a_follow a_textLength a_kindAt a_valueAt a_failsAt a_expectedAt a_roleAt a_scopeAt a_openProduction a_openNext a_openStart a_targetBefore (d + 1) (nI (f * 20 + (k + 1))) := fun h => ih (k + 1) (by omega) (fun y hy => by
      rcases Nat.lt_or_ge y k with z | z
      · exact hI y z
      · have e : y = k := by omega
        subst e; exact h)
    rw [wX_repeatsEarlier_5]
    dsimp only
    rw [cK, cX, s1, t1, w1]
    exact br_f (nI_ge (by omega) (by omega)) ⟨iK, iX, ek_if (lk_c2 (by omega) (by omega)) (fun e => ⟨iX, xl_def hl hf (by omega) w2 _ (fun d1 d2 => br_f (by decide) (h1 ⟨k, by omega, d1, e, d2⟩)) (fun h => br_t rfl (nm_r (nI_1 _) (skip (fun z => h ⟨z.1, z.2.2⟩))))⟩) (fun e => nm_r (nI_1 _) (skip (fun z => e z.2.1)))⟩
theorem xl_d16 (hl : xl_ok R C W a_roleAt a_scopeAt a_valueAt) {f : Nat} (hf : f < 4) (post : Int32 → Prop) (hP : post (nI (cn (lk_u R C W f) 20))) :
    ∀ d x, x + d = 20 → wX_duplicates_16 post (nI f) f_built f_productionCount f_depth a_ruleOf a_marked a_symbolCount a_symbols a_roles a_derives a_first a_follow a_textLength a_kindAt a_valueAt a_failsAt a_expectedAt a_roleAt a_scopeAt a_openProduction a_openNext a_openStart a_targetBefore (d + 1) (nI (cn (lk_u R C W f) x)) (nI (f * 20 + x)) := by
  intro d
  induction d with
  | zero =>
    intro x hx
    have e : x = 20 := by omega
    subst e
    rw [wX_duplicates_16]
    dsimp only
    rw [ba_20, ba_p20]
    exact br_t (nI_le (by omega) (by omega)) hP
  | succ d ih =>
    intro x hx
    obtain ⟨a1, a2, a3, a4⟩ := hl.1 f x hf (by omega)
    have cI : (nI (f * 20 + x)).toNatClampNeg = f * 20 + x := nI_clamp (by omega)
    have no : ¬ lk_u R C W f x → wX_duplicates_16 post (nI f) f_built f_productionCount f_depth a_ruleOf a_marked a_symbolCount a_symbols a_roles a_derives a_first a_follow a_textLength a_kindAt a_valueAt a_failsAt a_expectedAt a_roleAt a_scopeAt a_openProduction a_openNext a_openStart a_targetBefore (d + 1) (nI (cn (lk_u R C W f) x)) (nI (f * 20 + (x + 1))) := fun h => by
      have q := ih (x + 1) (by omega)
      rw [show cn (lk_u R C W f) (x + 1) = cn (lk_u R C W f) x + b01 (lk_u R C W f x) from rfl, b01_f h, Nat.add_zero] at q
      exact q
    rw [wX_duplicates_16]
    dsimp only
    rw [ba_20, ba_p20, cI, a1]
    refine br_f (nI_ge (by omega) (by omega)) ⟨vp_in_nI (by omega) (by omega), pk_eq (R f x) 1 (fun e => ?_) (fun e => nm_r (nI_1 _) (no (fun z => e z.1)))⟩
    have hSC := hl.2 ⟨f, x, hf, by omega, by omega⟩
    unfold wpX_repeatsEarlier
    dsimp only
    refine xl_fpb hf (by omega) _ ⟨x + 1, xl_re5 hl hf (by omega) hSC _ (fun h => br_f (by decide) (nm_r (nI_1 _) (nm_r (nI_1 _) ?_))) (fun h => br_t rfl (nm_r (nI_1 _) (no (fun z => h z.2)))) x 0 (by omega) (fun y h => by omega)⟩
    have q := ih (x + 1) (by omega)
    rw [show cn (lk_u R C W f) (x + 1) = cn (lk_u R C W f) x + b01 (lk_u R C W f x) from rfl, b01_t ⟨e, h⟩] at q
    exact q
theorem xl_dup (hl : xl_ok R C W a_roleAt a_scopeAt a_valueAt) {v1 : Int32} (post : Int32 → Prop) (h0 : (¬ ∃ f, f < 4 ∧ v1 = nI f) → post 0) (h1 : ∀ f, f < 4 → v1 = nI f → post (nI (cn (lk_u R C W f) 20))) : wpX_duplicates post (f_built, f_productionCount, f_depth, a_ruleOf, a_marked, a_symbolCount, a_symbols, a_roles, a_derives, a_first, a_follow, a_textLength, a_kindAt, a_valueAt, a_failsAt, a_expectedAt, a_roleAt, a_scopeAt, a_openProduction, a_openNext, a_openStart, a_targetBefore) v1 := by
  unfold wpX_duplicates
  dsimp only
  refine xm_isf _ (fun hn => br_t rfl (h0 hn)) (fun f hf e => br_f (by decide) ?_)
  subst e
  exact nm_r (ba_20 f) ⟨20 + 1, xl_d16 hl hf post (h1 f hf rfl) 20 0 (by omega)⟩
/-! unresolved -/
def lk_v (R C W : Nat → Nat → Nat) (y : Nat) : Prop := R (y / 20) (y % 20) = 2 ∧ lk_t R C W (y / 20) (y % 20) = 80
theorem xl_u4 (hl : xl_ok R C W a_roleAt a_scopeAt a_valueAt) (post : Int32 → Prop) (hP : post (nI (cn (lk_v R C W) 80))) :
    ∀ d y, y + d = 80 → wX_unresolved_4 post f_built f_productionCount f_depth a_ruleOf a_marked a_symbolCount a_symbols a_roles a_derives a_first a_follow a_textLength a_kindAt a_valueAt a_failsAt a_expectedAt a_roleAt a_scopeAt a_openProduction a_openNext a_openStart a_targetBefore (d + 1) (nI (cn (lk_v R C W) y)) (nI y) := by
  intro d
  induction d with
  | zero =>
    intro y hy
    have e : y = 80 := by omega
    subst e
    rw [wX_unresolved_4]
    dsimp only
    exact br_t (nI_le (a := 80) (by omega) (by omega)) hP
  | succ d ih =>
    intro y hy
    have hf : y / 20 < 4 := by omega
    have hx : y % 20 < 20 := by omega
    have ey : y / 20 * 20 + y % 20 = y := by omega
    obtain ⟨a1, a2, a3, a4⟩ := hl.1 (y / 20) (y % 20) hf hx
    have tp := xl_tp (f_built := f_built) (f_productionCount := f_productionCount) (f_depth := f_depth) (a_ruleOf := a_ruleOf) (a_marked := a_marked) (a_symbolCount := a_symbolCount) (a_symbols := a_symbols) (a_roles := a_roles) (a_derives := a_derives) (a_first := a_first) (a_follow := a_follow) (a_textLength := a_textLength) (a_kindAt := a_kindAt) (a_valueAt := a_valueAt) (a_failsAt := a_failsAt) (a_expectedAt := a_expectedAt) (a_roleAt := a_roleAt) (a_scopeAt := a_scopeAt) (a_openProduction := a_openProduction) (a_openNext := a_openNext) (a_openStart := a_openStart) (a_targetBefore := a_targetBefore) hl hf hx
    rw [ey] at a1
    have cI : (nI y).toNatClampNeg = y := nI_clamp (by omega)
    have no : ¬ lk_v R C W y → wX_unresolved_4 post f_built f_productionCount f_depth a_ruleOf a_marked a_symbolCount a_symbols a_roles a_derives a_first a_follow a_textLength a_kindAt a_valueAt a_failsAt a_expectedAt a_roleAt a_scopeAt a_openProduction a_openNext a_openStart a_targetBefore (d + 1) (nI (cn (lk_v R C W) y)) (nI (y + 1)) := fun h => by
      have q := ih (y + 1) (by omega)
      rw [show cn (lk_v R C W) (y + 1) = cn (lk_v R C W) y + b01 (lk_v R C W y) from rfl, b01_f h, Nat.add_zero] at q
      exact q
    rw [wX_unresolved_4]
    dsimp only
    rw [cI, a1]
    refine br_f (nI_ge (b := 80) (by omega) (by omega)) ⟨vp_in_nI (by omega) (by omega), pk_eq (R (y / 20) (y % 20)) 2 (fun e => ?_) (fun e => nm_r (nI_1 _) (no (fun z => e z.1)))⟩
    rw [← ey]
    refine tp _ (fun h => absurd e h) (fun _ => ?_)
    rw [ey]
    have t80 := lk_t80 (R := R) (C := C) (W := W) (f := y / 20) (x := y % 20) hf
    unfold pl_o
    rcases Nat.lt_or_ge (lk_t R C W (y / 20) (y % 20)) 80 with z | z
    · rw [if_pos z]
      exact br_f (pl_n z) (nm_r (nI_1 _) (no (fun q => by have := q.2; omega)))
    · rw [if_neg (by omega)]
      refine br_t rfl (nm_r (nI_1 _) (nm_r (nI_1 _) ?_))
      have q := ih (y + 1) (by omega)
      rw [show cn (lk_v R C W) (y + 1) = cn (lk_v R C W) y + b01 (lk_v R C W y) from rfl, b01_t ⟨e, by omega⟩] at q
      exact q
end
end
section
/-! linking, Y's side -/
theorem sc_ex {G : gm_G} (hG : gm_gd G) {w : Nat → Nat} {len : Nat} (hw : w len = 10) {x a b : Nat} (h : sc_in G w len x a b) : ∃ i j, sc_m G w len x i j := by
  obtain ⟨s, ⟨i, j, h1, h2⟩, h3⟩ := pk_least (fun s => ∃ i j, sc_in G w len x i j ∧ j - i = s) ⟨_, a, b, h, rfl⟩
  refine ⟨i, j, h1, fun a' b' z => ?_⟩
  have q := h3 (b' - a')
  rcases sc_nest hG hw h1 z with y | y
  · have z1 := z.1.1
    have h11 := h1.1.1
    rcases Nat.lt_or_ge (b' - a') s with t | t
    · exact absurd ⟨a', b', z, rfl⟩ (q t)
    · omega
  · exact y
theorem pc_m {G : gm_G} (hG : gm_gd G) {w : Nat → Nat} {len : Nat} (hw : w len = 10) (hd : dr_D G w 0 0 len) (x : Nat) : (px_c G w len x = 0 ∧ ∀ a b, ¬ sc_in G w len x a b) ∨ ∃ i j, sc_m G w len x i j ∧ px_c G w len x = 32 * i + j := by
  rcases Classical.em (∃ a b, sc_in G w len x a b) with ⟨a, b, h⟩ | h
  · obtain ⟨i, j, z⟩ := sc_ex hG hw h
    exact Or.inr ⟨i, j, z, px_ct hd z⟩
  · have h' : ∀ a b, ¬ sc_in G w len x a b := fun a b z => h ⟨a, b, z⟩
    exact Or.inl ⟨px_cn h', h'⟩
def ry_Q (G : gm_G) (L K V : Nat → Nat) (B : Nat → Int32) (S : Nat → Prop) (v : SY) : Prop := ry_R true G L K V v ∧ ry_B v = B ∧ ∀ g, g < 4 → S g → ry_K G L K g v
def pl_w (V : Nat → Nat) (f x : Nat) : Nat := V (f * 20 + x)
def lk_n (R C W : Nat → Nat → Nat) (f c n x : Nat) : Prop := R f x = 1 ∧ W f x = n ∧ C f x = c
noncomputable def lk_w (R : Nat → Nat → Nat) (y : Nat) : Int32 := if y < 80 then nI (y / 20 * 32 + cn (fun z => R (y / 20) z = 1) (y % 20)) else -1
section
variable {G : gm_G} {L K V : Nat → Nat} {B : Nat → Int32} {S : Nat → Prop}
theorem pl_t (hG : gm_gd G) {f x : Nat} (h : ¬ pl_r G L K f x = 0) : dr_D G (tx_w L K f) 0 0 (L f) ∧ x < L f := by
  constructor
  · rcases Classical.em (dr_D G (tx_w L K f) 0 0 (L f)) with z | z
    · exact z
    · exact absurd (px_r0 z) h
  · rcases Nat.lt_or_ge x (L f) with z | z
    · exact z
    · exact absurd (px_rn hG tx_wn z) h
theorem pl_s (hG : gm_gd G) (hT : tx_ok L K V) {f x : Nat} (hf : f < 4) : lk_s (pl_c G L K f x) := by
  have l := hT.1 f hf
  unfold pl_c
  rcases Classical.em (dr_D G (tx_w L K f) 0 0 (L f)) with hd | hd
  · rcases pc_m hG tx_wn hd x with ⟨z, _⟩ | ⟨i, j, z, e⟩
    · exact Or.inl z
    · have q := sc_len hG tx_wn z.1.1
      exact Or.inr ⟨i, j, q.1, by omega, e⟩
  · exact Or.inl (px_c0 hd)
theorem yl_is {v : SY} (hG : gm_gd G) (hT : tx_ok L K V) (hY : ry_Q G L K V B S v) {f x r : Nat} (hf : f < 4) (hx : x < 20) (hr : 1 ≤ r ∧ r < 4) (post : Int32 → SY → Prop) (hP1 : pl_r G L K f x = r → ∀ v', ry_Q G L K V B S v' → ry_K G L K f v' → post 1 v') (hP0 : ¬ pl_r G L K f x = r → ∀ v', ry_Q G L K V B S v' → ry_K G L K f v' → post 0 v') : wpY_is post v (nI f) (nI x) (nI r) :=
  ym_is hG hT hY.1 hf hx hr post (fun h v' a b c => hP1 h v' ⟨a, c.1.trans hY.2.1, fun g hg hs => c.2 g hg (hY.2.2 g hg hs)⟩ b) (fun h v' a b c => hP0 h v' ⟨a, c.1.trans hY.2.1, fun g hg hs => c.2 g hg (hY.2.2 g hg hs)⟩ b)
theorem cn_s (P : Nat → Prop) (k : Nat) : cn P (k + 1) = cn P k + b01 (P k) := rfl
theorem yl_c20 (hG : gm_gd G) (hT : tx_ok L K V) {f r : Nat} (hf : f < 4) (hr : 1 ≤ r ∧ r < 4) (post : Int32 → SY → Prop) (hP : ∀ v, ry_Q G L K V B S v → post (nI (cn (fun x => pl_r G L K f x = r) 20)) v) :
    ∀ d x v, x + d = 20 → ry_Q G L K V B S v → match v with | (f_np, f_built, f_some, f_empty, f_wn, f_nt, a_pRule, a_pScope, a_pLen, a_sym, a_role, a_first, a_follow, a_kind, a_val, a_len, a_word, a_reach, a_beyond, a_way, a_known, a_bad, a_part, a_scopes, a_inner, a_tRule, a_tFrom, a_tTo, a_before) => wY_count_20 post (nI f) (nI r) (d + 1) (nI (cn (fun x => pl_r G L K f x = r) x)) (nI x) f_np f_built f_some f_empty f_wn f_nt a_pRule a_pScope a_pLen a_sym a_role a_first a_follow a_kind a_val a_len a_word a_reach a_beyond a_way a_known a_bad a_part a_scopes a_inner a_tRule a_tFrom a_tTo a_before := by
  intro d
  induction d with
  | zero =>
    intro x v hx hv
    obtain ⟨f_np, f_built, f_some, f_empty, f_wn, f_nt, a_pRule, a_pScope, a_pLen, a_sym, a_role, a_first, a_follow, a_kind, a_val, a_len, a_word, a_reach, a_beyond, a_way, a_known, a_bad, a_part, a_scopes, a_inner, a_tRule, a_tFrom, a_tTo, a_before⟩ := v
    have e : x = 20 := by omega
    subst e
    dsimp only
    rw [wY_count_20]
    exact br_t (nI_le (a := 20) (by omega) (by omega)) (hP _ hv)
  | succ d ih =>
    intro x v hx hv
    obtain ⟨f_np, f_built, f_some, f_empty, f_wn, f_nt, a_pRule, a_pScope, a_pLen, a_sym, a_role, a_first, a_follow, a_kind, a_val, a_len, a_word, a_reach, a_beyond, a_way, a_known, a_bad, a_part, a_scopes, a_inner, a_tRule, a_tFrom, a_tTo, a_before⟩ := v
    dsimp only
    rw [wY_count_20]
    refine br_f (nI_ge (b := 20) (by omega) (by omega)) (yl_is hG hT hv hf (by omega) hr _ (fun e v' hv' _ => ?_) (fun e v' hv' _ => ?_))
    · have q := ih (x + 1) v' (by omega) hv'
      obtain ⟨f_np, f_built, f_some, f_empty, f_wn, f_nt, a_pRule, a_pScope, a_pLen, a_sym, a_role, a_first, a_follow, a_kind, a_val, a_len, a_word, a_reach, a_beyond, a_way, a_known, a_bad, a_part, a_scopes, a_inner, a_tRule, a_tFrom, a_tTo, a_before⟩ := v'
      rw [cn_s, b01_t e] at q
      exact br_f (by decide) (nm_r (nI_1 _) (nm_r (nI_1 _) q))
    · have q := ih (x + 1) v' (by omega) hv'
      obtain ⟨f_np, f_built, f_some, f_empty, f_wn, f_nt, a_pRule, a_pScope, a_pLen, a_sym, a_role, a_first, a_follow, a_kind, a_val, a_len, a_word, a_reach, a_beyond, a_way, a_known, a_bad, a_part, a_scopes, a_inner, a_tRule, a_tFrom, a_tTo, a_before⟩ := v'
      rw [cn_s, b01_f e, Nat.add_zero] at q
      exact br_t rfl (nm_r (nI_1 _) q)
theorem yl_count {v : SY} (hG : gm_gd G) (hT : tx_ok L K V) (hY : ry_Q G L K V B S v) {v1 : Int32} {r : Nat} (hr : 1 ≤ r ∧ r < 4) (post : Int32 → SY → Prop) (h0 : (¬ ∃ f, f < 4 ∧ v1 = nI f) → post 0 v) (h1 : ∀ f, f < 4 → v1 = nI f → ∀ v', ry_Q G L K V B S v' → post (nI (cn (fun x => pl_r G L K f x = r) 20)) v') : wpY_count post v v1 (nI r) := by
  obtain ⟨f_np, f_built, f_some, f_empty, f_wn, f_nt, a_pRule, a_pScope, a_pLen, a_sym, a_role, a_first, a_follow, a_kind, a_val, a_len, a_word, a_reach, a_beyond, a_way, a_known, a_bad, a_part, a_scopes, a_inner, a_tRule, a_tFrom, a_tTo, a_before⟩ := v
  unfold wpY_count
  dsimp only
  refine br_f (by rw [hY.1.1]; decide) (ym_isf _ (fun hn => br_t rfl (h0 hn)) (fun f hf e => br_f (by decide) ⟨20 + 1, ?_⟩))
  subst e
  exact yl_c20 hG hT hf hr post (h1 f hf rfl) 20 0 _ (by omega) hY
theorem yl_p6 (hG : gm_gd G) (hT : tx_ok L K V) {f r k : Nat} (hf : f < 4) (hr : 1 ≤ r ∧ r < 4) (hk : k < 2 ^ 31) (post : Int32 → SY → Prop) (hP1 : ∀ x v, lk_p (pl_r G L K) f r (nI k) x → ry_Q G L K V B S v → ry_K G L K f v → post (nI x) v) (hP0 : ∀ v, (∀ x, ¬ lk_p (pl_r G L K) f r (nI k) x) → ry_Q G L K V B S v → post (-1) v) :
    ∀ d x v, x + d = 20 → ry_Q G L K V B S v → cn (fun x => pl_r G L K f x = r) x ≤ k → (∀ y, y < x → ¬ lk_p (pl_r G L K) f r (nI k) y) → match v with | (f_np, f_built, f_some, f_empty, f_wn, f_nt, a_pRule, a_pScope, a_pLen, a_sym, a_role, a_first, a_follow, a_kind, a_val, a_len, a_word, a_reach, a_beyond, a_way, a_known, a_bad, a_part, a_scopes, a_inner, a_tRule, a_tFrom, a_tTo, a_before) => wY_placeOf_6 post (nI f) (nI r) (nI k) (d + 1) (nI (k - cn (fun x => pl_r G L K f x = r) x)) (nI x) f_np f_built f_some f_empty f_wn f_nt a_pRule a_pScope a_pLen a_sym a_role a_first a_follow a_kind a_val a_len a_word a_reach a_beyond a_way a_known a_bad a_part a_scopes a_inner a_tRule a_tFrom a_tTo a_before := by
  intro d
  induction d with
  | zero =>
    intro x v hx hv hc hI
    obtain ⟨f_np, f_built, f_some, f_empty, f_wn, f_nt, a_pRule, a_pScope, a_pLen, a_sym, a_role, a_first, a_follow, a_kind, a_val, a_len, a_word, a_reach, a_beyond, a_way, a_known, a_bad, a_part, a_scopes, a_inner, a_tRule, a_tFrom, a_tTo, a_before⟩ := v
    have e : x = 20 := by omega
    subst e
    dsimp only
    rw [wY_placeOf_6]
    exact br_t (nI_le (a := 20) (by omega) (by omega)) (hP0 _ (fun y z => hI y z.1 z) hv)
  | succ d ih =>
    intro x v hx hv hc hI
    obtain ⟨f_np, f_built, f_some, f_empty, f_wn, f_nt, a_pRule, a_pScope, a_pLen, a_sym, a_role, a_first, a_follow, a_kind, a_val, a_len, a_word, a_reach, a_beyond, a_way, a_known, a_bad, a_part, a_scopes, a_inner, a_tRule, a_tFrom, a_tTo, a_before⟩ := v
    have nx : ¬ lk_p (pl_r G L K) f r (nI k) x → ∀ y, y < x + 1 → ¬ lk_p (pl_r G L K) f r (nI k) y := fun h y hy => by
      rcases Nat.lt_or_ge y x with z | z
      · exact hI y z
      · have e : y = x := by omega
        subst e; exact h
    have cl := cn_le (fun x => pl_r G L K f x = r) x
    dsimp only
    rw [wY_placeOf_6]
    refine br_f (nI_ge (b := 20) (by omega) (by omega)) (br_f (nI_pos hk) (yl_is hG hT hv hf (by omega) hr _ (fun e v' hv' hk' => ?_) (fun e v' hv' _ => ?_)))
    · refine br_f (by decide) (nm_e ?_)
      rcases Nat.lt_or_ge (cn (fun x => pl_r G L K f x = r) x) k with z | z
      · have hne : k - cn (fun x => pl_r G L K f x = r) x ≠ 0 := by omega
        have q := ih (x + 1) v' (by omega) hv' (by rw [cn_s, b01_t e]; omega) (nx (fun y => by
          have := (nI_eq (by omega) (by omega)).mp y.2.2
          omega))
        obtain ⟨f_np, f_built, f_some, f_empty, f_wn, f_nt, a_pRule, a_pScope, a_pLen, a_sym, a_role, a_first, a_follow, a_kind, a_val, a_len, a_word, a_reach, a_beyond, a_way, a_known, a_bad, a_part, a_scopes, a_inner, a_tRule, a_tFrom, a_tTo, a_before⟩ := v'
        rw [cn_s, b01_t e] at q
        refine br_f (nI_ne0 (by omega) (by omega)) (nm_r (nI_1 _) ?_)
        rw [ba_s1 (by omega), show k - cn (fun x => pl_r G L K f x = r) x - 1 = k - (cn (fun x => pl_r G L K f x = r) x + 1) from by omega]
        exact q
      · refine br_t ?_ (hP1 x v' ⟨by omega, e, ?_⟩ hv' hk')
        · rw [show k - cn (fun x => pl_r G L K f x = r) x = 0 from by omega]; rfl
        · rw [show k = cn (fun x => pl_r G L K f x = r) x from by omega]
    · have q := ih (x + 1) v' (by omega) hv' (by rw [cn_s, b01_f e]; omega) (nx (fun y => e y.2.1))
      obtain ⟨f_np, f_built, f_some, f_empty, f_wn, f_nt, a_pRule, a_pScope, a_pLen, a_sym, a_role, a_first, a_follow, a_kind, a_val, a_len, a_word, a_reach, a_beyond, a_way, a_known, a_bad, a_part, a_scopes, a_inner, a_tRule, a_tFrom, a_tTo, a_before⟩ := v'
      rw [cn_s, b01_f e, Nat.add_zero] at q
      exact br_t rfl (nm_r (nI_1 _) q)
theorem yl_place {v : SY} (hG : gm_gd G) (hT : tx_ok L K V) (hY : ry_Q G L K V B S v) {f r : Nat} {v2 : Int32} (hf : f < 4) (hr : 1 ≤ r ∧ r < 4) (post : Int32 → SY → Prop) (hP1 : ∀ x v, lk_p (pl_r G L K) f r v2 x → ry_Q G L K V B S v → ry_K G L K f v → post (nI x) v) (hP0 : ∀ v, (∀ x, ¬ lk_p (pl_r G L K) f r v2 x) → ry_Q G L K V B S v → post (-1) v) : wpY_placeOf post v (nI f) (nI r) v2 := by
  obtain ⟨f_np, f_built, f_some, f_empty, f_wn, f_nt, a_pRule, a_pScope, a_pLen, a_sym, a_role, a_first, a_follow, a_kind, a_val, a_len, a_word, a_reach, a_beyond, a_way, a_known, a_bad, a_part, a_scopes, a_inner, a_tRule, a_tFrom, a_tTo, a_before⟩ := v
  unfold wpY_placeOf
  dsimp only
  rcases Classical.em (v2 < 0) with h | h
  · refine ⟨1, ?_⟩
    rw [wY_placeOf_6]
    refine br_f (by decide) (br_t h (hP0 _ (fun x z => ?_) hY))
    have := cn_le (fun x => pl_r G L K f x = r) x
    have hx := z.1
    have e := z.2.2
    subst e
    exact nI_pos (by omega) h
  · obtain ⟨k, hk, e⟩ := nI_of h
    subst e
    exact ⟨20 + 1, yl_p6 hG hT hf hr hk post hP1 hP0 20 0 _ (by omega) hY (by exact Nat.zero_le _) (fun y h => by omega)⟩
theorem yl_f6 (hG : gm_gd G) (hT : tx_ok L K V) {f c n : Nat} (hf : f < 4) (hc : c < 700) (hn : n < 16) (post : Int32 → SY → Prop) :
    ∀ d x v, x + d = 20 → ry_Q G L K V B S v → (x = 0 ∨ ry_K G L K f v) → (∀ q v', q = lq (lk_n (pl_r G L K) (pl_c G L K) (pl_w V) f c n) d x → ry_Q G L K V B S v' → ry_K G L K f v' → post (if q < 20 then nI (f * 32 + cn (fun x => pl_r G L K f x = 1) q) else -1) v') → match v with | (f_np, f_built, f_some, f_empty, f_wn, f_nt, a_pRule, a_pScope, a_pLen, a_sym, a_role, a_first, a_follow, a_kind, a_val, a_len, a_word, a_reach, a_beyond, a_way, a_known, a_bad, a_part, a_scopes, a_inner, a_tRule, a_tFrom, a_tTo, a_before) => wY_firstIn_6 post (nI f) (nI c - 1) (nI n) (d + 1) (nI (cn (fun x => pl_r G L K f x = 1) x)) (nI x) f_np f_built f_some f_empty f_wn f_nt a_pRule a_pScope a_pLen a_sym a_role a_first a_follow a_kind a_val a_len a_word a_reach a_beyond a_way a_known a_bad a_part a_scopes a_inner a_tRule a_tFrom a_tTo a_before := by
  intro d
  induction d with
  | zero =>
    intro x v hx hv hk hP
    obtain ⟨f_np, f_built, f_some, f_empty, f_wn, f_nt, a_pRule, a_pScope, a_pLen, a_sym, a_role, a_first, a_follow, a_kind, a_val, a_len, a_word, a_reach, a_beyond, a_way, a_known, a_bad, a_part, a_scopes, a_inner, a_tRule, a_tFrom, a_tTo, a_before⟩ := v
    have e : x = 20 := by omega
    subst e
    have := hP 20 _ rfl hv (hk.elim (fun z => by omega) id)
    rw [if_neg (by omega)] at this
    dsimp only
    rw [wY_firstIn_6]
    exact br_t (nI_le (a := 20) (by omega) (by omega)) this
  | succ d ih =>
    intro x v hx hv hk hP
    obtain ⟨f_np, f_built, f_some, f_empty, f_wn, f_nt, a_pRule, a_pScope, a_pLen, a_sym, a_role, a_first, a_follow, a_kind, a_val, a_len, a_word, a_reach, a_beyond, a_way, a_known, a_bad, a_part, a_scopes, a_inner, a_tRule, a_tFrom, a_tTo, a_before⟩ := v
    dsimp only
    rw [wY_firstIn_6]
    refine br_f (nI_ge (b := 20) (by omega) (by omega)) (yl_is (r := 1) hG hT hv hf (by omega) ⟨by omega, by omega⟩ _ (fun e v' hv' hk' => ?_) (fun e v' hv' hk' => ?_))
    · have skip : ¬ lk_n (pl_r G L K) (pl_c G L K) (pl_w V) f c n x → match v' with | (f_np, f_built, f_some, f_empty, f_wn, f_nt, a_pRule, a_pScope, a_pLen, a_sym, a_role, a_first, a_follow, a_kind, a_val, a_len, a_word, a_reach, a_beyond, a_way, a_known, a_bad, a_part, a_scopes, a_inner, a_tRule, a_tFrom, a_tTo, a_before) => wY_firstIn_6 post (nI f) (nI c - 1) (nI n) (d + 1) (nI (cn (fun x => pl_r G L K f x = 1) (x + 1))) (nI (x + 1)) f_np f_built f_some f_empty f_wn f_nt a_pRule a_pScope a_pLen a_sym a_role a_first a_follow a_kind a_val a_len a_word a_reach a_beyond a_way a_known a_bad a_part a_scopes a_inner a_tRule a_tFrom a_tTo a_before := fun h => ih (x + 1) v' (by omega) hv' (Or.inr hk') (fun q v2 z1 z2 z3 => hP q v2 (by rw [lq_f h]; exact z1) z2 z3)
      have hit : lk_n (pl_r G L K) (pl_c G L K) (pl_w V) f c n x → post (nI (f * 32 + cn (fun x => pl_r G L K f x = 1) x)) v' := fun h => by
        have := hP x v' (lq_t h).symm hv' hk'
        rw [if_pos (by omega)] at this
        exact this
      obtain ⟨f_np, f_built, f_some, f_empty, f_wn, f_nt, a_pRule, a_pScope, a_pLen, a_sym, a_role, a_first, a_follow, a_kind, a_val, a_len, a_word, a_reach, a_beyond, a_way, a_known, a_bad, a_part, a_scopes, a_inner, a_tRule, a_tFrom, a_tTo, a_before⟩ := v'
      obtain ⟨hd, hxl⟩ := pl_t (G := G) (L := L) (K := K) hG (f := f) (x := x) (by omega)
      have l := hT.1 f hf
      have cI : (nI (f * 20 + x)).toNatClampNeg = f * 20 + x := nI_clamp (by omega)
      have iI : vp_in (nI (f * 20 + x)) 80 := vp_in_nI (by omega) (by omega)
      have e1 : a_inner (f * 20 + x) = nI (pl_c G L K f x) - 1 := ((hk'.2.2 hd).1 x hxl).2
      have e2 : a_val (f * 20 + x) = nI (V (f * 20 + x)) := (hv'.1.2.2.1.2 _ (by omega)).2
      have c7 := lk_s1 (pl_s (x := x) hG hT hf)
      have w16 := (hT.2 (f * 20 + x) (by omega)).2
      rw [cn_s, b01_t e] at skip
      dsimp only at skip ⊢
      rw [ba_20x, cI, e1, e2, ba_32x]
      exact br_f (by decide) ⟨iI, ek_if (lk_c2 (by omega) (by omega)) (fun z => ⟨iI, pk_eq (V (f * 20 + x)) n (fun y => hit ⟨e, y, z⟩) (fun y => nm_r (nI_1 _) (nm_r (nI_1 _) (skip (fun t => y t.2.1))))⟩) (fun z => nm_r (nI_1 _) (nm_r (nI_1 _) (skip (fun t => z t.2.2))))⟩
    · have q := ih (x + 1) v' (by omega) hv' (Or.inr hk') (fun q v2 z1 z2 z3 => hP q v2 (by rw [lq_f (fun t => e t.1)]; exact z1) z2 z3)
      obtain ⟨f_np, f_built, f_some, f_empty, f_wn, f_nt, a_pRule, a_pScope, a_pLen, a_sym, a_role, a_first, a_follow, a_kind, a_val, a_len, a_word, a_reach, a_beyond, a_way, a_known, a_bad, a_part, a_scopes, a_inner, a_tRule, a_tFrom, a_tTo, a_before⟩ := v'
      rw [cn_s, b01_f e, Nat.add_zero] at q
      exact br_t rfl (nm_r (nI_1 _) q)
theorem yl_fi {v : SY} (hG : gm_gd G) (hT : tx_ok L K V) (hY : ry_Q G L K V B S v) {f c n : Nat} (hf : f < 4) (hc : c < 700) (hn : n < 16) (post : Int32 → SY → Prop) (hP : ∀ v', ry_Q G L K V B S v' → ry_K G L K f v' → post (if lq (lk_n (pl_r G L K) (pl_c G L K) (pl_w V) f c n) 20 0 < 20 then nI (f * 32 + cn (fun x => pl_r G L K f x = 1) (lq (lk_n (pl_r G L K) (pl_c G L K) (pl_w V) f c n) 20 0)) else -1) v') : wpY_firstIn post v (nI f) (nI c - 1) (nI n) := by
  obtain ⟨f_np, f_built, f_some, f_empty, f_wn, f_nt, a_pRule, a_pScope, a_pLen, a_sym, a_role, a_first, a_follow, a_kind, a_val, a_len, a_word, a_reach, a_beyond, a_way, a_known, a_bad, a_part, a_scopes, a_inner, a_tRule, a_tFrom, a_tTo, a_before⟩ := v
  unfold wpY_firstIn
  dsimp only
  exact ⟨20 + 1, yl_f6 hG hT hf hc hn post 20 0 _ (by omega) hY (Or.inl rfl) (fun q v' z1 z2 z3 => by subst z1; exact hP v' z2 z3)⟩
theorem lw_n {R : Nat → Nat → Nat} {g q : Nat} (hg : g < 4) (hq : q < 20) : lk_w R (g * 20 + q) = nI (g * 32 + cn (fun x => R g x = 1) q) := by
  unfold lk_w
  rw [if_pos (by omega), show (g * 20 + q) / 20 = g from by omega, show (g * 20 + q) % 20 = q from by omega]
theorem lw_p {R : Nat → Nat → Nat} {g q : Nat} (hg : g < 4) (hq : q < 20) : 0 ≤ nI (g * 32 + cn (fun x => R g x = 1) q) := by
  have := cn_le (fun x => R g x = 1) q
  exact nI_pos' (by omega)
/-- the imports -/
theorem yl_k89 (hG : gm_gd G) (hT : tx_ok L K V) {f n : Nat} (hf : f < 4) (hn : n < 16) (post : Int32 → SY → Prop) :
    ∀ d i v, i + d = 20 → ry_Q G L K V B S v → (∀ q v', q = lq (lk_a (pl_r G L K) (pl_c G L K) (pl_w V) f n) d i → ry_Q G L K V B S v' → post (lk_w (pl_r G L K) (lk_e (pl_r G L K) (pl_c G L K) (pl_w V) f n q)) v') → match v with | (f_np, f_built, f_some, f_empty, f_wn, f_nt, a_pRule, a_pScope, a_pLen, a_sym, a_role, a_first, a_follow, a_kind, a_val, a_len, a_word, a_reach, a_beyond, a_way, a_known, a_bad, a_part, a_scopes, a_inner, a_tRule, a_tFrom, a_tTo, a_before) => wY_link_89 post (nI f) (nI n) (d + 2) (-1) (nI i) f_np f_built f_some f_empty f_wn f_nt a_pRule a_pScope a_pLen a_sym a_role a_first a_follow a_kind a_val a_len a_word a_reach a_beyond a_way a_known a_bad a_part a_scopes a_inner a_tRule a_tFrom a_tTo a_before := by
  intro d
  induction d with
  | zero =>
    intro i v hi hv hP
    obtain ⟨f_np, f_built, f_some, f_empty, f_wn, f_nt, a_pRule, a_pScope, a_pLen, a_sym, a_role, a_first, a_follow, a_kind, a_val, a_len, a_word, a_reach, a_beyond, a_way, a_known, a_bad, a_part, a_scopes, a_inner, a_tRule, a_tFrom, a_tTo, a_before⟩ := v
    have e : i = 20 := by omega
    subst e
    have := hP 20 _ rfl hv
    unfold lk_e lk_w at this
    rw [if_neg (show ¬ (20 < 20) from by omega), if_neg (by omega)] at this
    dsimp only
    rw [wY_link_89]
    exact br_t (nI_le (a := 20) (by omega) (by omega)) this
  | succ d ih =>
    intro i v hi hv hP
    obtain ⟨f_np, f_built, f_some, f_empty, f_wn, f_nt, a_pRule, a_pScope, a_pLen, a_sym, a_role, a_first, a_follow, a_kind, a_val, a_len, a_word, a_reach, a_beyond, a_way, a_known, a_bad, a_part, a_scopes, a_inner, a_tRule, a_tFrom, a_tTo, a_before⟩ := v
    have skip : ¬ lk_a (pl_r G L K) (pl_c G L K) (pl_w V) f n i → ∀ v', ry_Q G L K V B S v' → match v' with | (f_np, f_built, f_some, f_empty, f_wn, f_nt, a_pRule, a_pScope, a_pLen, a_sym, a_role, a_first, a_follow, a_kind, a_val, a_len, a_word, a_reach, a_beyond, a_way, a_known, a_bad, a_part, a_scopes, a_inner, a_tRule, a_tFrom, a_tTo, a_before) => wY_link_89 post (nI f) (nI n) (d + 2) (-1) (nI (i + 1)) f_np f_built f_some f_empty f_wn f_nt a_pRule a_pScope a_pLen a_sym a_role a_first a_follow a_kind a_val a_len a_word a_reach a_beyond a_way a_known a_bad a_part a_scopes a_inner a_tRule a_tFrom a_tTo a_before := fun h v' hv' => ih (i + 1) v' (by omega) hv' (fun q v2 z1 z2 => hP q v2 (by rw [lq_f h]; exact z1) z2)
    dsimp only
    rw [wY_link_89]
    refine br_f (nI_ge (b := 20) (by omega) (by omega)) (br_f (by decide) (yl_is (r := 3) hG hT hv hf (by omega) ⟨by omega, by omega⟩ _ (fun e v' hv' hk' => ?_) (fun e v' hv' hk' => ?_)))
    · obtain ⟨f_np, f_built, f_some, f_empty, f_wn, f_nt, a_pRule, a_pScope, a_pLen, a_sym, a_role, a_first, a_follow, a_kind, a_val, a_len, a_word, a_reach, a_beyond, a_way, a_known, a_bad, a_part, a_scopes, a_inner, a_tRule, a_tFrom, a_tTo, a_before⟩ := v'
      have cI : (nI (f * 20 + i)).toNatClampNeg = f * 20 + i := nI_clamp (by omega)
      have iI : vp_in (nI (f * 20 + i)) 80 := vp_in_nI (by omega) (by omega)
      have e2 : a_val (f * 20 + i) = nI (V (f * 20 + i)) := (hv'.1.2.2.1.2 _ (by omega)).2
      have w16 := (hT.2 (f * 20 + i) (by omega)).2
      have e4 : nI (V (f * 20 + i)) &&& 3 = nI (V (f * 20 + i) % 4) := pk_andN (by omega) 2 (by decide)
      dsimp only
      rw [ba_20x, cI, e2, e4]
      refine br_f (by decide) ⟨iI, yl_fi (c := 0) hG hT hv' (by omega) (by omega) hn _ (fun v2 hv2 hk2 => ?_)⟩
      rcases Nat.lt_or_ge (lk_q (pl_r G L K) (pl_c G L K) (pl_w V) (V (f * 20 + i) % 4) n) 20 with z | z
      · have h := hP i v2 (lq_t ⟨e, z⟩).symm hv2
        unfold lk_e at h
        rw [if_pos (show i < 20 from by omega)] at h
        have h : post (lk_w (pl_r G L K) (V (f * 20 + i) % 4 * 20 + lk_q (pl_r G L K) (pl_c G L K) (pl_w V) (V (f * 20 + i) % 4) n)) v2 := h
        rw [lw_n (by omega) z] at h
        have p0 := lw_p (R := pl_r G L K) (show V (f * 20 + i) % 4 < 4 from by omega) z
        obtain ⟨f_np, f_built, f_some, f_empty, f_wn, f_nt, a_pRule, a_pScope, a_pLen, a_sym, a_role, a_first, a_follow, a_kind, a_val, a_len, a_word, a_reach, a_beyond, a_way, a_known, a_bad, a_part, a_scopes, a_inner, a_tRule, a_tFrom, a_tTo, a_before⟩ := v2
        rw [if_pos (show lq (lk_n (pl_r G L K) (pl_c G L K) (pl_w V) (V (f * 20 + i) % 4) 0 n) 20 0 < 20 from z)]
        refine nm_e ?_
        rw [wY_link_89]
        exact br_c (fun _ => h) (fun _ => br_t p0 h)
      · have h := skip (fun y => by have := y.2; have : lk_q (pl_r G L K) (pl_c G L K) (pl_w V) (V (f * 20 + i) % 4) n < 20 := this; omega) v2 hv2
        obtain ⟨f_np, f_built, f_some, f_empty, f_wn, f_nt, a_pRule, a_pScope, a_pLen, a_sym, a_role, a_first, a_follow, a_kind, a_val, a_len, a_word, a_reach, a_beyond, a_way, a_known, a_bad, a_part, a_scopes, a_inner, a_tRule, a_tFrom, a_tTo, a_before⟩ := v2
        rw [if_neg (show ¬ lq (lk_n (pl_r G L K) (pl_c G L K) (pl_w V) (V (f * 20 + i) % 4) 0 n) 20 0 < 20 from fun y => by have y : lk_q (pl_r G L K) (pl_c G L K) (pl_w V) (V (f * 20 + i) % 4) n < 20 := y; omega)]
        exact nm_r (nI_1 _) h
    · have q := skip (fun t => e t.1) v' hv'
      obtain ⟨f_np, f_built, f_some, f_empty, f_wn, f_nt, a_pRule, a_pScope, a_pLen, a_sym, a_role, a_first, a_follow, a_kind, a_val, a_len, a_word, a_reach, a_beyond, a_way, a_known, a_bad, a_part, a_scopes, a_inner, a_tRule, a_tFrom, a_tTo, a_before⟩ := v'
      exact br_t rfl (nm_r (nI_1 _) q)
/-- after the scopes: the root, then the imports -/
theorem yl_k72 (hG : gm_gd G) (hT : tx_ok L K V) {v : SY} (hv : ry_Q G L K V B S v) {f x : Nat} (hf : f < 4) (hx : x < 20) (post : Int32 → SY → Prop) (hP : ∀ v', ry_Q G L K V B S v' → post (lk_w (pl_r G L K) (lk_t (pl_r G L K) (pl_c G L K) (pl_w V) f x)) v') (hI : ∀ y, lk_c (pl_r G L K) (pl_c G L K) (pl_w V) f x (pl_w V f x) y → pl_c G L K f y = 0) : match v with | (f_np, f_built, f_some, f_empty, f_wn, f_nt, a_pRule, a_pScope, a_pLen, a_sym, a_role, a_first, a_follow, a_kind, a_val, a_len, a_word, a_reach, a_beyond, a_way, a_known, a_bad, a_part, a_scopes, a_inner, a_tRule, a_tFrom, a_tTo, a_before) => wY_link_72 post (nI f) (nI (pl_w V f x)) (-1) f_np f_built f_some f_empty f_wn f_nt a_pRule a_pScope a_pLen a_sym a_role a_first a_follow a_kind a_val a_len a_word a_reach a_beyond a_way a_known a_bad a_part a_scopes a_inner a_tRule a_tFrom a_tTo a_before := by
  have hn : pl_w V f x < 16 := (hT.2 (f * 20 + x) (by omega)).2
  obtain ⟨f_np, f_built, f_some, f_empty, f_wn, f_nt, a_pRule, a_pScope, a_pLen, a_sym, a_role, a_first, a_follow, a_kind, a_val, a_len, a_word, a_reach, a_beyond, a_way, a_known, a_bad, a_part, a_scopes, a_inner, a_tRule, a_tFrom, a_tTo, a_before⟩ := v
  dsimp only
  unfold wY_link_72
  refine br_f (by decide) (yl_fi (c := 0) hG hT hv hf (by omega) hn _ (fun v2 hv2 hk2 => ?_))
  obtain ⟨q1, q2, q3, q4⟩ := lq_s (P := lk_n (pl_r G L K) (pl_c G L K) (pl_w V) f 0 (pl_w V f x)) 20 0
  have cd : ∀ y, y < 20 → (lk_c (pl_r G L K) (pl_c G L K) (pl_w V) f x (pl_w V f x) y ↔ lk_n (pl_r G L K) (pl_c G L K) (pl_w V) f 0 (pl_w V f x) y) := fun y hy => ⟨fun z => ⟨z.2.1, z.2.2.1, hI y z⟩, fun z => ⟨hy, z.1, z.2.1, Or.inl z.2.2⟩⟩
  generalize lq (lk_n (pl_r G L K) (pl_c G L K) (pl_w V) f 0 (pl_w V f x)) 20 0 = q at q1 q2 q3 q4 ⊢
  rcases Nat.lt_or_ge q 20 with z | z
  · have hq := q3 (by omega)
    have hLI : lk_I (pl_r G L K) (pl_c G L K) (pl_w V) f x (pl_w V f x) q := by
      refine Or.inl ⟨(cd q z).mpr hq, fun y hy => Or.inr ⟨?_, ?_⟩⟩
      · rw [hq.2.2, hI y hy]
      · rcases Nat.lt_or_ge y q with t | t
        · exact absurd ((cd y hy.1).mp hy) (q4 y (by omega) t)
        · exact t
    have h := hP v2 hv2
    unfold lk_t at h
    rw [lk_ie hLI, if_pos z, lw_n hf z] at h
    have p0 := lw_p (R := pl_r G L K) hf z
    obtain ⟨f_np, f_built, f_some, f_empty, f_wn, f_nt, a_pRule, a_pScope, a_pLen, a_sym, a_role, a_first, a_follow, a_kind, a_val, a_len, a_word, a_reach, a_beyond, a_way, a_known, a_bad, a_part, a_scopes, a_inner, a_tRule, a_tFrom, a_tTo, a_before⟩ := v2
    rw [if_pos z]
    refine ⟨1, ?_⟩
    rw [wY_link_89]
    exact br_c (fun _ => h) (fun _ => br_t p0 h)
  · have hLI : lk_I (pl_r G L K) (pl_c G L K) (pl_w V) f x (pl_w V f x) 20 := Or.inr ⟨rfl, fun y hy => q4 y (by omega) (by have := hy.1; omega) ((cd y hy.1).mp hy)⟩
    have h : ∀ v', ry_Q G L K V B S v' → post (lk_w (pl_r G L K) (lk_m (pl_r G L K) (pl_c G L K) (pl_w V) f (pl_w V f x))) v' := fun v' hv' => by
      have h := hP v' hv'
      unfold lk_t at h
      rw [lk_ie hLI, if_neg (by omega)] at h
      exact h
    have g := yl_k89 hG hT hf hn post 20 0 v2 (by omega) hv2 (fun q v' z1 z2 => by subst z1; exact h v' z2)
    obtain ⟨f_np, f_built, f_some, f_empty, f_wn, f_nt, a_pRule, a_pScope, a_pLen, a_sym, a_role, a_first, a_follow, a_kind, a_val, a_len, a_word, a_reach, a_beyond, a_way, a_known, a_bad, a_part, a_scopes, a_inner, a_tRule, a_tFrom, a_tTo, a_before⟩ := v2
    rw [if_neg (by omega)]
    exact ⟨20 + 2, g⟩
theorem yl_k18 (hG : gm_gd G) (hT : tx_ok L K V) {f x : Nat} (hf : f < 4) (hx : x < 20) (hd : dr_D G (tx_w L K f) 0 0 (L f)) (post : Int32 → SY → Prop) (hP : ∀ v', ry_Q G L K V B S v' → post (lk_w (pl_r G L K) (lk_t (pl_r G L K) (pl_c G L K) (pl_w V) f x)) v') :
    ∀ d s v, s + d = 21 → 1 ≤ s → ry_Q G L K V B S v → ry_K G L K f v → (∀ y, lk_c (pl_r G L K) (pl_c G L K) (pl_w V) f x (pl_w V f x) y → s ≤ lk_z (pl_c G L K f y)) → match v with | (f_np, f_built, f_some, f_empty, f_wn, f_nt, a_pRule, a_pScope, a_pLen, a_sym, a_role, a_first, a_follow, a_kind, a_val, a_len, a_word, a_reach, a_beyond, a_way, a_known, a_bad, a_part, a_scopes, a_inner, a_tRule, a_tFrom, a_tTo, a_before) => wY_link_18 post (nI f) (nI x) (nI (pl_w V f x)) (d + 2) (-1) (nI s) f_np f_built f_some f_empty f_wn f_nt a_pRule a_pScope a_pLen a_sym a_role a_first a_follow a_kind a_val a_len a_word a_reach a_beyond a_way a_known a_bad a_part a_scopes a_inner a_tRule a_tFrom a_tTo a_before := by
  have hn : pl_w V f x < 16 := (hT.2 (f * 20 + x) (by omega)).2
  have l := hT.1 f hf
  -- the code of a definition with a scope is a scope
  have code : ∀ y, ¬ pl_c G L K f y = 0 → ∃ i j, sc_S G (tx_w L K f) (L f) i j ∧ pl_c G L K f y = 32 * i + j ∧ i < j ∧ j ≤ 20 := by
    intro y hy
    rcases pc_m hG tx_wn hd y with ⟨z, _⟩ | ⟨i, j, z, e⟩
    · exact absurd z hy
    · have q := sc_len hG tx_wn z.1.1
      exact ⟨i, j, z.1.1, e, q.1, by omega⟩
  intro d
  induction d with
  | zero =>
    intro s v hs h1 hv hk hI
    have e : s = 21 := by omega
    subst e
    have g := yl_k72 hG hT hv hf hx post hP (fun y hy => by
      rcases Nat.eq_zero_or_pos (pl_c G L K f y) with z | z
      · exact z
      · have q := hI y hy
        obtain ⟨i, j, _, e, a, b⟩ := code y (by omega)
        unfold lk_z at q
        rw [if_neg (by omega)] at q
        omega)
    obtain ⟨f_np, f_built, f_some, f_empty, f_wn, f_nt, a_pRule, a_pScope, a_pLen, a_sym, a_role, a_first, a_follow, a_kind, a_val, a_len, a_word, a_reach, a_beyond, a_way, a_known, a_bad, a_part, a_scopes, a_inner, a_tRule, a_tFrom, a_tTo, a_before⟩ := v
    dsimp only
    rw [wY_link_18]
    exact br_t (nI_lt (a := 20) (by omega) (by omega)) g
  | succ d ih =>
    intro s v hs h1 hv hk hI
    have ih' := ih (s + 1)
    obtain ⟨f_np, f_built, f_some, f_empty, f_wn, f_nt, a_pRule, a_pScope, a_pLen, a_sym, a_role, a_first, a_follow, a_kind, a_val, a_len, a_word, a_reach, a_beyond, a_way, a_known, a_bad, a_part, a_scopes, a_inner, a_tRule, a_tFrom, a_tTo, a_before⟩ := v
    have hsp : ∀ i, i < 20 → gm_ms (a_scopes (f * 20 + i)) (fun t => sc_S G (tx_w L K f) (L f) i (t + 1)) := (hk.2.2 hd).2
    have hsc : ∀ i j, sc_S G (tx_w L K f) (L f) i j → j ≤ 20 := fun i j h => by have := sc_len hG tx_wn h; omega
    dsimp only
    rw [wY_link_18]
    refine br_f (nI_nlt (a := 20) (by omega) (by omega)) (br_f (by decide) (ym_ar hf hx ⟨h1, by omega⟩ hsc hsp _ (fun r hr => ?_)))
    rcases hr with ⟨i, r1, r2⟩ | ⟨r1, r2⟩
    · subst r2
      have q := sc_len hG tx_wn r1.1
      refine br_f (nI_pos (by omega)) ?_
      rw [ba_32x, nI_add, show i * 32 + i + s = 32 * i + (i + s) from by omega]
      refine yl_fi hG hT hv hf (by omega) hn _ (fun v2 hv2 hk2 => ?_)
      -- the candidates of this size are those of this code
      have same : ∀ y, lk_c (pl_r G L K) (pl_c G L K) (pl_w V) f x (pl_w V f x) y → lk_z (pl_c G L K f y) = s → pl_c G L K f y = 32 * i + (i + s) := by
        intro y hy hz
        have c0 : ¬ pl_c G L K f y = 0 := fun z => by
          unfold lk_z at hz
          rw [if_pos z] at hz
          omega
        obtain ⟨a, b, u1, u2, u3, u4⟩ := code y c0
        unfold lk_z at hz
        rw [if_neg c0] at hz
        have hh := hy.2.2.2.elim (fun z => absurd z c0) id
        have in1 : sc_in G (tx_w L K f) (L f) x a b := ⟨u1, by omega, by omega⟩
        have := sc_nest hG tx_wn in1 r1
        omega
      have mem : ∀ y, y < 20 → lk_n (pl_r G L K) (pl_c G L K) (pl_w V) f (32 * i + (i + s)) (pl_w V f x) y → lk_c (pl_r G L K) (pl_c G L K) (pl_w V) f x (pl_w V f x) y ∧ lk_z (pl_c G L K f y) = s := by
        intro y hy ⟨m1, m2, m3⟩
        have hxi := r1.2
        refine ⟨⟨hy, m1, m2, Or.inr ?_⟩, ?_⟩
        · rw [m3]; omega
        · rw [m3]
          unfold lk_z
          rw [if_neg (by omega)]
          omega
      obtain ⟨q1, q2, q3, q4⟩ := lq_s (P := lk_n (pl_r G L K) (pl_c G L K) (pl_w V) f (32 * i + (i + s)) (pl_w V f x)) 20 0
      generalize lq (lk_n (pl_r G L K) (pl_c G L K) (pl_w V) f (32 * i + (i + s)) (pl_w V f x)) 20 0 = q0 at q1 q2 q3 q4 ⊢
      rcases Nat.lt_or_ge q0 20 with z | z
      · obtain ⟨m1, m2⟩ := mem q0 z (q3 (by omega))
        have hLI : lk_I (pl_r G L K) (pl_c G L K) (pl_w V) f x (pl_w V f x) q0 := by
          refine Or.inl ⟨m1, fun y hy => ?_⟩
          have t := hI y hy
          rcases Nat.lt_or_ge s (lk_z (pl_c G L K f y)) with u | u
          · exact Or.inl (by omega)
          · refine Or.inr ⟨by omega, ?_⟩
            rcases Nat.lt_or_ge y q0 with p | p
            · exact absurd ⟨hy.2.1, hy.2.2.1, same y hy (by omega)⟩ (q4 y (by omega) p)
            · exact p
        have h := hP v2 hv2
        unfold lk_t at h
        rw [lk_ie hLI, if_pos z, lw_n hf z] at h
        have p0 := lw_p (R := pl_r G L K) hf z
        obtain ⟨f_np, f_built, f_some, f_empty, f_wn, f_nt, a_pRule, a_pScope, a_pLen, a_sym, a_role, a_first, a_follow, a_kind, a_val, a_len, a_word, a_reach, a_beyond, a_way, a_known, a_bad, a_part, a_scopes, a_inner, a_tRule, a_tFrom, a_tTo, a_before⟩ := v2
        rw [if_pos z]
        refine nm_e ?_
        have fin : wY_link_72 post (nI f) (nI (pl_w V f x)) (nI (f * 32 + cn (fun x => pl_r G L K f x = 1) q0)) f_np f_built f_some f_empty f_wn f_nt a_pRule a_pScope a_pLen a_sym a_role a_first a_follow a_kind a_val a_len a_word a_reach a_beyond a_way a_known a_bad a_part a_scopes a_inner a_tRule a_tFrom a_tTo a_before := by
          unfold wY_link_72
          refine br_t p0 ⟨1, ?_⟩
          rw [wY_link_89]
          exact br_c (fun _ => h) (fun _ => br_t p0 h)
        rw [wY_link_18]
        exact br_c (fun _ => fin) (fun _ => br_t p0 fin)
      · have g := ih' v2 (by omega) (by omega) hv2 hk2 (fun y hy => by
          have t := hI y hy
          rcases Nat.lt_or_ge s (lk_z (pl_c G L K f y)) with u | u
          · exact u
          · exact absurd ⟨hy.2.1, hy.2.2.1, same y hy (by omega)⟩ (q4 y (by omega) (by have := hy.1; omega)))
        obtain ⟨f_np, f_built, f_some, f_empty, f_wn, f_nt, a_pRule, a_pScope, a_pLen, a_sym, a_role, a_first, a_follow, a_kind, a_val, a_len, a_word, a_reach, a_beyond, a_way, a_known, a_bad, a_part, a_scopes, a_inner, a_tRule, a_tFrom, a_tTo, a_before⟩ := v2
        rw [if_neg (by omega)]
        exact nm_r (nI_1 _) g
    · subst r2
      refine br_t (by decide) (nm_r (nI_1 _) (ih' _ (by omega) (by omega) hv hk (fun y hy => ?_)))
      have t := hI y hy
      rcases Nat.lt_or_ge s (lk_z (pl_c G L K f y)) with u | u
      · exact u
      · exfalso
        have hz : lk_z (pl_c G L K f y) = s := by omega
        have c0 : ¬ pl_c G L K f y = 0 := fun z => by
          unfold lk_z at hz
          rw [if_pos z] at hz
          omega
        obtain ⟨a, b, u1, u2, u3, u4⟩ := code y c0
        unfold lk_z at hz
        rw [if_neg c0] at hz
        have hh := hy.2.2.2.elim (fun z => absurd z c0) id
        have eb : b = a + s := by omega
        subst eb
        exact r1 a ⟨u1, by omega, by omega⟩
theorem yl_link {v : SY} (hG : gm_gd G) (hT : tx_ok L K V) (hY : ry_Q G L K V B S v) {f x : Nat} (hf : f < 4) (hx : x < 20) (hk : ry_K G L K f v) (hd : dr_D G (tx_w L K f) 0 0 (L f)) (post : Int32 → SY → Prop) (hP : ∀ v', ry_Q G L K V B S v' → post (lk_w (pl_r G L K) (lk_t (pl_r G L K) (pl_c G L K) (pl_w V) f x)) v') : wpY_link post v (nI f) (nI x) := by
  have g := yl_k18 hG hT hf hx hd post hP 20 1 v (by omega) (by omega) hY hk (fun y hy => by
    have := pl_s (x := y) hG hT hf
    unfold lk_z
    rcases this with z | ⟨i, j, a, b, e⟩
    · rw [if_pos z]; omega
    · split <;> omega)
  obtain ⟨f_np, f_built, f_some, f_empty, f_wn, f_nt, a_pRule, a_pScope, a_pLen, a_sym, a_role, a_first, a_follow, a_kind, a_val, a_len, a_word, a_reach, a_beyond, a_way, a_known, a_bad, a_part, a_scopes, a_inner, a_tRule, a_tFrom, a_tTo, a_before⟩ := v
  have cI : (nI (f * 20 + x)).toNatClampNeg = f * 20 + x := nI_clamp (by omega)
  unfold wpY_link
  dsimp only
  rw [ba_20x, cI]
  exact ⟨vp_in_nI (by omega) (by omega), nm_r (hY.1.2.2.1.2 _ (by omega)).2 ⟨20 + 2, g⟩⟩
/-! duplicates -/
theorem yl_d7 (hG : gm_gd G) (hT : tx_ok L K V) {f : Nat} (hf : f < 4) (post : Int32 → SY → Prop) (hP : ∀ v, ry_Q G L K V B S v → post (nI (cn (lk_u (pl_r G L K) (pl_c G L K) (pl_w V) f) 20)) v) :
    ∀ d x v, x + d = 20 → ry_Q G L K V B S v → match v with | (f_np, f_built, f_some, f_empty, f_wn, f_nt, a_pRule, a_pScope, a_pLen, a_sym, a_role, a_first, a_follow, a_kind, a_val, a_len, a_word, a_reach, a_beyond, a_way, a_known, a_bad, a_part, a_scopes, a_inner, a_tRule, a_tFrom, a_tTo, a_before) => wY_duplicates_7 post (nI f) (d + 1) (nI (cn (lk_u (pl_r G L K) (pl_c G L K) (pl_w V) f) x)) (nI (cn (fun x => pl_r G L K f x = 1) x)) (nI x) f_np f_built f_some f_empty f_wn f_nt a_pRule a_pScope a_pLen a_sym a_role a_first a_follow a_kind a_val a_len a_word a_reach a_beyond a_way a_known a_bad a_part a_scopes a_inner a_tRule a_tFrom a_tTo a_before := by
  intro d
  induction d with
  | zero =>
    intro x v hx hv
    obtain ⟨f_np, f_built, f_some, f_empty, f_wn, f_nt, a_pRule, a_pScope, a_pLen, a_sym, a_role, a_first, a_follow, a_kind, a_val, a_len, a_word, a_reach, a_beyond, a_way, a_known, a_bad, a_part, a_scopes, a_inner, a_tRule, a_tFrom, a_tTo, a_before⟩ := v
    have e : x = 20 := by omega
    subst e
    dsimp only
    rw [wY_duplicates_7]
    exact br_t (nI_le (a := 20) (by omega) (by omega)) (hP _ hv)
  | succ d ih =>
    intro x v hx hv
    have ih' := ih (x + 1)
    obtain ⟨f_np, f_built, f_some, f_empty, f_wn, f_nt, a_pRule, a_pScope, a_pLen, a_sym, a_role, a_first, a_follow, a_kind, a_val, a_len, a_word, a_reach, a_beyond, a_way, a_known, a_bad, a_part, a_scopes, a_inner, a_tRule, a_tFrom, a_tTo, a_before⟩ := v
    dsimp only
    rw [wY_duplicates_7]
    refine br_f (nI_ge (b := 20) (by omega) (by omega)) (br_f (by rw [hv.1.1]; decide) (ym_isf _ (fun hn => absurd ⟨f, hf, rfl⟩ hn) (fun _ _ _ => br_f (by decide) (yl_is (r := 1) hG hT hv hf (by omega) ⟨by omega, by omega⟩ _ (fun e v' hv' hk' => ?_) (fun e v' hv' hk' => ?_)))))
    · obtain ⟨f_np, f_built, f_some, f_empty, f_wn, f_nt, a_pRule, a_pScope, a_pLen, a_sym, a_role, a_first, a_follow, a_kind, a_val, a_len, a_word, a_reach, a_beyond, a_way, a_known, a_bad, a_part, a_scopes, a_inner, a_tRule, a_tFrom, a_tTo, a_before⟩ := v'
      obtain ⟨hd, hxl⟩ := pl_t (G := G) (L := L) (K := K) hG (f := f) (x := x) (by omega)
      have cI : (nI (f * 20 + x)).toNatClampNeg = f * 20 + x := nI_clamp (by omega)
      have iI : vp_in (nI (f * 20 + x)) 80 := vp_in_nI (by omega) (by omega)
      have e1 : a_inner (f * 20 + x) = nI (pl_c G L K f x) - 1 := ((hk'.2.2 hd).1 x hxl).2
      have e2 : a_val (f * 20 + x) = nI (pl_w V f x) := (hv'.1.2.2.1.2 _ (by omega)).2
      have c7 := lk_s1 (pl_s (x := x) hG hT hf)
      have w16 : pl_w V f x < 16 := (hT.2 (f * 20 + x) (by omega)).2
      have cl := cn_le (fun x => pl_r G L K f x = 1) x
      dsimp only
      rw [ba_20x, cI, e1, e2, ba_32x]
      refine br_f (by decide) ⟨iI, iI, yl_fi hG hT hv' hf (by omega) w16 _ (fun v2 hv2 hk2 => ?_)⟩
      have q := ih' v2 (by omega) hv2
      rw [cn_s, cn_s (fun x => pl_r G L K f x = 1), b01_t e] at q
      obtain ⟨q1, q2, q3, q4⟩ := lq_s (P := lk_n (pl_r G L K) (pl_c G L K) (pl_w V) f (pl_c G L K f x) (pl_w V f x)) 20 0
      have hx0 : lk_n (pl_r G L K) (pl_c G L K) (pl_w V) f (pl_c G L K f x) (pl_w V f x) x := ⟨e, rfl, rfl⟩
      generalize lq (lk_n (pl_r G L K) (pl_c G L K) (pl_w V) f (pl_c G L K f x) (pl_w V f x)) 20 0 = q0 at q1 q2 q3 q4 ⊢
      have q0x : q0 ≤ x := by
        rcases Nat.lt_or_ge x q0 with t | t
        · exact absurd hx0 (q4 x (by omega) t)
        · exact t
      obtain ⟨m1, m2, m3⟩ := q3 (by omega)
      have cl0 := cn_le (fun x => pl_r G L K f x = 1) q0
      rw [if_pos (show q0 < 20 from by omega)]
      rcases Nat.lt_or_ge q0 x with t | t
      · have u : lk_u (pl_r G L K) (pl_c G L K) (pl_w V) f x := ⟨e, q0, t, m1, m3, m2⟩
        have lt : cn (fun x => pl_r G L K f x = 1) (q0 + 1) ≤ cn (fun x => pl_r G L K f x = 1) x := by
          have : ∀ k, cn (fun x => pl_r G L K f x = 1) (q0 + 1) ≤ cn (fun x => pl_r G L K f x = 1) (q0 + 1 + k) := by
            intro k
            induction k with
            | zero => exact Nat.le_refl _
            | succ k ik =>
              rw [show q0 + 1 + (k + 1) = q0 + 1 + k + 1 from by omega, cn_s _ (q0 + 1 + k)]
              omega
          have := this (x - (q0 + 1))
          rw [show q0 + 1 + (x - (q0 + 1)) = x from by omega] at this
          exact this
        rw [cn_s, b01_t m1] at lt
        rw [b01_t u] at q
        obtain ⟨f_np, f_built, f_some, f_empty, f_wn, f_nt, a_pRule, a_pScope, a_pLen, a_sym, a_role, a_first, a_follow, a_kind, a_val, a_len, a_word, a_reach, a_beyond, a_way, a_known, a_bad, a_part, a_scopes, a_inner, a_tRule, a_tFrom, a_tTo, a_before⟩ := v2
        refine br_f (fun z => ?_) (nm_r (nI_1 _) (nm_r (nI_1 _) (nm_r (nI_1 _) q)))
        have := (nI_eq (by omega) (by omega)).mp z
        omega
      · have ex : q0 = x := by omega
        subst ex
        have u : ¬ lk_u (pl_r G L K) (pl_c G L K) (pl_w V) f q0 := fun ⟨_, y, z1, z2, z3, z4⟩ => q4 y (by omega) z1 ⟨z2, z4, z3⟩
        rw [b01_f u, Nat.add_zero] at q
        obtain ⟨f_np, f_built, f_some, f_empty, f_wn, f_nt, a_pRule, a_pScope, a_pLen, a_sym, a_role, a_first, a_follow, a_kind, a_val, a_len, a_word, a_reach, a_beyond, a_way, a_known, a_bad, a_part, a_scopes, a_inner, a_tRule, a_tFrom, a_tTo, a_before⟩ := v2
        exact br_t rfl (nm_r (nI_1 _) (nm_r (nI_1 _) q))
    · have q := ih' v' (by omega) hv'
      obtain ⟨f_np, f_built, f_some, f_empty, f_wn, f_nt, a_pRule, a_pScope, a_pLen, a_sym, a_role, a_first, a_follow, a_kind, a_val, a_len, a_word, a_reach, a_beyond, a_way, a_known, a_bad, a_part, a_scopes, a_inner, a_tRule, a_tFrom, a_tTo, a_before⟩ := v'
      rw [cn_s, cn_s (fun x => pl_r G L K f x = 1), b01_f e, b01_f (fun z : lk_u (pl_r G L K) (pl_c G L K) (pl_w V) f x => e z.1), Nat.add_zero, Nat.add_zero] at q
      exact br_t rfl (nm_r (nI_1 _) q)
theorem yl_dup {v : SY} (hG : gm_gd G) (hT : tx_ok L K V) (hY : ry_Q G L K V B S v) {v1 : Int32} (post : Int32 → SY → Prop) (h0 : (¬ ∃ f, f < 4 ∧ v1 = nI f) → post 0 v) (h1 : ∀ f, f < 4 → v1 = nI f → ∀ v', ry_Q G L K V B S v' → post (nI (cn (lk_u (pl_r G L K) (pl_c G L K) (pl_w V) f) 20)) v') : wpY_duplicates post v v1 := by
  rcases Classical.em (∃ f, f < 4 ∧ v1 = nI f) with ⟨f, hf, e⟩ | hn
  · subst e
    have g := yl_d7 hG hT hf post (h1 f hf rfl) 20 0 v (by omega) hY
    obtain ⟨f_np, f_built, f_some, f_empty, f_wn, f_nt, a_pRule, a_pScope, a_pLen, a_sym, a_role, a_first, a_follow, a_kind, a_val, a_len, a_word, a_reach, a_beyond, a_way, a_known, a_bad, a_part, a_scopes, a_inner, a_tRule, a_tFrom, a_tTo, a_before⟩ := v
    exact ⟨20 + 1, g⟩
  · obtain ⟨f_np, f_built, f_some, f_empty, f_wn, f_nt, a_pRule, a_pScope, a_pLen, a_sym, a_role, a_first, a_follow, a_kind, a_val, a_len, a_word, a_reach, a_beyond, a_way, a_known, a_bad, a_part, a_scopes, a_inner, a_tRule, a_tFrom, a_tTo, a_before⟩ := v
    refine ⟨1, ?_⟩
    rw [wY_duplicates_7]
    exact br_f (by decide) (br_f (by rw [hY.1.1]; decide) (ym_isf _ (fun _ => br_t rfl (h0 hn)) (fun f hf e => absurd ⟨f, hf, e⟩ hn)))
/-! unresolved -/
theorem yl_u18 (hG : gm_gd G) (hT : tx_ok L K V) {f : Nat} (hf : f < 4) (post : Int32 → SY → Prop) (J11 : _) (hJ : ∀ v, ry_Q G L K V B S v → match v with | (f_np, f_built, f_some, f_empty, f_wn, f_nt, a_pRule, a_pScope, a_pLen, a_sym, a_role, a_first, a_follow, a_kind, a_val, a_len, a_word, a_reach, a_beyond, a_way, a_known, a_bad, a_part, a_scopes, a_inner, a_tRule, a_tFrom, a_tTo, a_before) => J11 (nI (cn (lk_v (pl_r G L K) (pl_c G L K) (pl_w V)) (f * 20 + 20))) (nI (f + 1)) f_np f_built f_some f_empty f_wn f_nt a_pRule a_pScope a_pLen a_sym a_role a_first a_follow a_kind a_val a_len a_word a_reach a_beyond a_way a_known a_bad a_part a_scopes a_inner a_tRule a_tFrom a_tTo a_before) :
    ∀ d x v, x + d = 20 → ry_Q G L K V B S v → match v with | (f_np, f_built, f_some, f_empty, f_wn, f_nt, a_pRule, a_pScope, a_pLen, a_sym, a_role, a_first, a_follow, a_kind, a_val, a_len, a_word, a_reach, a_beyond, a_way, a_known, a_bad, a_part, a_scopes, a_inner, a_tRule, a_tFrom, a_tTo, a_before) => wY_unresolved_18 post J11 (nI f) (d + 1) (nI (cn (lk_v (pl_r G L K) (pl_c G L K) (pl_w V)) (f * 20 + x))) (nI x) f_np f_built f_some f_empty f_wn f_nt a_pRule a_pScope a_pLen a_sym a_role a_first a_follow a_kind a_val a_len a_word a_reach a_beyond a_way a_known a_bad a_part a_scopes a_inner a_tRule a_tFrom a_tTo a_before := by
  intro d
  induction d with
  | zero =>
    intro x v hx hv
    have j := hJ v hv
    obtain ⟨f_np, f_built, f_some, f_empty, f_wn, f_nt, a_pRule, a_pScope, a_pLen, a_sym, a_role, a_first, a_follow, a_kind, a_val, a_len, a_word, a_reach, a_beyond, a_way, a_known, a_bad, a_part, a_scopes, a_inner, a_tRule, a_tFrom, a_tTo, a_before⟩ := v
    have e : x = 20 := by omega
    subst e
    dsimp only
    rw [wY_unresolved_18]
    exact br_t (nI_le (a := 20) (by omega) (by omega)) (nm_r (nI_1 _) j)
  | succ d ih =>
    intro x v hx hv
    have ih' := ih (x + 1)
    obtain ⟨f_np, f_built, f_some, f_empty, f_wn, f_nt, a_pRule, a_pScope, a_pLen, a_sym, a_role, a_first, a_follow, a_kind, a_val, a_len, a_word, a_reach, a_beyond, a_way, a_known, a_bad, a_part, a_scopes, a_inner, a_tRule, a_tFrom, a_tTo, a_before⟩ := v
    have e1 : (f * 20 + x) / 20 = f := by omega
    have e2 : (f * 20 + x) % 20 = x := by omega
    have no : ¬ lk_v (pl_r G L K) (pl_c G L K) (pl_w V) (f * 20 + x) → ∀ v', ry_Q G L K V B S v' → match v' with | (f_np, f_built, f_some, f_empty, f_wn, f_nt, a_pRule, a_pScope, a_pLen, a_sym, a_role, a_first, a_follow, a_kind, a_val, a_len, a_word, a_reach, a_beyond, a_way, a_known, a_bad, a_part, a_scopes, a_inner, a_tRule, a_tFrom, a_tTo, a_before) => wY_unresolved_18 post J11 (nI f) (d + 1) (nI (cn (lk_v (pl_r G L K) (pl_c G L K) (pl_w V)) (f * 20 + x))) (nI (x + 1)) f_np f_built f_some f_empty f_wn f_nt a_pRule a_pScope a_pLen a_sym a_role a_first a_follow a_kind a_val a_len a_word a_reach a_beyond a_way a_known a_bad a_part a_scopes a_inner a_tRule a_tFrom a_tTo a_before := fun h v' hv' => by
      have q := ih' v' (by omega) hv'
      rw [← Nat.add_assoc, cn_s, b01_f h, Nat.add_zero] at q
      exact q
    dsimp only
    rw [wY_unresolved_18]
    refine br_f (nI_ge (b := 20) (by omega) (by omega)) (yl_is (r := 2) hG hT hv hf (by omega) ⟨by omega, by omega⟩ _ (fun e v' hv' hk' => ?_) (fun e v' hv' hk' => ?_))
    · obtain ⟨hd, hxl⟩ := pl_t (G := G) (L := L) (K := K) hG (f := f) (x := x) (by omega)
      obtain ⟨f_np, f_built, f_some, f_empty, f_wn, f_nt, a_pRule, a_pScope, a_pLen, a_sym, a_role, a_first, a_follow, a_kind, a_val, a_len, a_word, a_reach, a_beyond, a_way, a_known, a_bad, a_part, a_scopes, a_inner, a_tRule, a_tFrom, a_tTo, a_before⟩ := v'
      refine br_f (by decide) (yl_link hG hT hv' hf (by omega) hk' hd _ (fun v2 hv2 => ?_))
      have t80 := lk_t80 (R := pl_r G L K) (C := pl_c G L K) (W := pl_w V) (f := f) (x := x) hf
      rcases Nat.lt_or_ge (lk_t (pl_r G L K) (pl_c G L K) (pl_w V) f x) 80 with z | z
      · have q := no (fun y => by have := y.2; rw [e1, e2] at this; omega) v2 hv2
        obtain ⟨f_np, f_built, f_some, f_empty, f_wn, f_nt, a_pRule, a_pScope, a_pLen, a_sym, a_role, a_first, a_follow, a_kind, a_val, a_len, a_word, a_reach, a_beyond, a_way, a_known, a_bad, a_part, a_scopes, a_inner, a_tRule, a_tFrom, a_tTo, a_before⟩ := v2
        unfold lk_w
        rw [if_pos z]
        have := cn_le (fun z => pl_r G L K (lk_t (pl_r G L K) (pl_c G L K) (pl_w V) f x / 20) z = 1) (lk_t (pl_r G L K) (pl_c G L K) (pl_w V) f x % 20)
        exact br_t (nI_pos' (by omega)) (nm_r (nI_1 _) q)
      · have q := ih' v2 (by omega) hv2
        rw [← Nat.add_assoc, cn_s, b01_t (show lk_v (pl_r G L K) (pl_c G L K) (pl_w V) (f * 20 + x) from ⟨by rw [e1, e2]; exact e, by rw [e1, e2]; omega⟩)] at q
        obtain ⟨f_np, f_built, f_some, f_empty, f_wn, f_nt, a_pRule, a_pScope, a_pLen, a_sym, a_role, a_first, a_follow, a_kind, a_val, a_len, a_word, a_reach, a_beyond, a_way, a_known, a_bad, a_part, a_scopes, a_inner, a_tRule, a_tFrom, a_tTo, a_before⟩ := v2
        unfold lk_w
        rw [if_neg (by omega)]
        exact br_f (by decide) (nm_r (nI_1 _) (nm_r (nI_1 _) q))
    · have q := no (fun y => e (by have := y.1; rw [e1, e2] at this; exact this)) v' hv'
      obtain ⟨f_np, f_built, f_some, f_empty, f_wn, f_nt, a_pRule, a_pScope, a_pLen, a_sym, a_role, a_first, a_follow, a_kind, a_val, a_len, a_word, a_reach, a_beyond, a_way, a_known, a_bad, a_part, a_scopes, a_inner, a_tRule, a_tFrom, a_tTo, a_before⟩ := v'
      exact br_t rfl (nm_r (nI_1 _) q)
theorem yl_u11 (hG : gm_gd G) (hT : tx_ok L K V) (post : Int32 → SY → Prop) (hP : ∀ v, ry_Q G L K V B S v → post (nI (cn (lk_v (pl_r G L K) (pl_c G L K) (pl_w V)) 80)) v) :
    ∀ d f v, f + d = 4 → ry_Q G L K V B S v → match v with | (f_np, f_built, f_some, f_empty, f_wn, f_nt, a_pRule, a_pScope, a_pLen, a_sym, a_role, a_first, a_follow, a_kind, a_val, a_len, a_word, a_reach, a_beyond, a_way, a_known, a_bad, a_part, a_scopes, a_inner, a_tRule, a_tFrom, a_tTo, a_before) => wY_unresolved_11 post (d + 1) (nI (cn (lk_v (pl_r G L K) (pl_c G L K) (pl_w V)) (f * 20))) (nI f) f_np f_built f_some f_empty f_wn f_nt a_pRule a_pScope a_pLen a_sym a_role a_first a_follow a_kind a_val a_len a_word a_reach a_beyond a_way a_known a_bad a_part a_scopes a_inner a_tRule a_tFrom a_tTo a_before := by
  intro d
  induction d with
  | zero =>
    intro f v hf hv
    obtain ⟨f_np, f_built, f_some, f_empty, f_wn, f_nt, a_pRule, a_pScope, a_pLen, a_sym, a_role, a_first, a_follow, a_kind, a_val, a_len, a_word, a_reach, a_beyond, a_way, a_known, a_bad, a_part, a_scopes, a_inner, a_tRule, a_tFrom, a_tTo, a_before⟩ := v
    have e : f = 4 := by omega
    subst e
    dsimp only
    rw [wY_unresolved_11]
    exact br_t (nI_le (a := 4) (by omega) (by omega)) (hP _ hv)
  | succ d ih =>
    intro f v hf hv
    have g := yl_u18 hG hT (f := f) (by omega) post (wY_unresolved_11 post (d + 1)) (fun v' hv' => by
      have q := ih (f + 1) v' (by omega) hv'
      rw [show (f + 1) * 20 = f * 20 + 20 from by omega] at q
      exact q) 20 0 v (by omega) hv
    obtain ⟨f_np, f_built, f_some, f_empty, f_wn, f_nt, a_pRule, a_pScope, a_pLen, a_sym, a_role, a_first, a_follow, a_kind, a_val, a_len, a_word, a_reach, a_beyond, a_way, a_known, a_bad, a_part, a_scopes, a_inner, a_tRule, a_tFrom, a_tTo, a_before⟩ := v
    dsimp only
    rw [wY_unresolved_11]
    exact br_f (nI_ge (b := 4) (by omega) (by omega)) ⟨20 + 1, g⟩
end
end
section
/-! definitions, references, target, duplicates, unresolved -/
theorem cn_z {P : Nat → Prop} : ∀ {N : Nat}, (∀ k, k < N → ¬ P k) → cn P N = 0
  | 0, _ => rfl
  | N + 1, h => by
    rw [cn_s, cn_z (fun k hk => h k (by omega)), b01_f (h N (by omega))]
section
variable {f_built f_productionCount f_depth : Int32} {a_ruleOf a_marked a_symbolCount a_symbols a_roles a_derives a_first a_follow a_textLength a_kindAt a_valueAt a_failsAt a_expectedAt a_roleAt a_scopeAt a_openProduction a_openNext a_openStart a_targetBefore : Nat → Int32} {G : gm_G} {L K V : Nat → Nat}
theorem xl_t (hG : gm_gd G) (hT : tx_ok L K V) (hr : rx_t L K V a_textLength a_kindAt a_valueAt) (hF : ∀ f, f < 4 → rx_f G L K f a_failsAt a_expectedAt a_roleAt a_scopeAt) : xl_ok (pl_r G L K) (pl_c G L K) (pl_w V) a_roleAt a_scopeAt a_valueAt := by
  refine ⟨fun f x hf hx => ⟨(hF f hf).2.2.1 x hx, px_r4 hG tx_wn, (hr.2 _ (by omega)).2, (hT.2 (f * 20 + x) (by omega)).2⟩, fun _ f x hf hx => ⟨(hF f hf).2.2.2 x hx, pl_s hG hT hf⟩⟩
theorem xl_0 (hT : tx_ok L K V) (hr : rx_t L K V a_textLength a_kindAt a_valueAt) (h0 : ∀ x, x < 80 → a_roleAt x = 0) : xl_ok (fun _ _ => 0) (fun _ _ => 0) (pl_w V) a_roleAt a_scopeAt a_valueAt := by
  refine ⟨fun f x hf hx => ⟨h0 _ (by omega), by show (0 : Nat) < 4; omega, (hr.2 _ (by omega)).2, (hT.2 (f * 20 + x) (by omega)).2⟩, fun ⟨f, x, _, _, h⟩ => absurd rfl h⟩
end
theorem ry_q {G : gm_G} {L K V : Nat → Nat} {v : SY} (h : ry_R true G L K V v) : ry_Q G L K V (ry_B v) (fun _ => False) v := ⟨h, rfl, fun _ _ z => z.elim⟩
theorem i_vc_definitions {k : Nat} {u : SX} {v : SY} (I : i_Rel k u v) (hk : k + 5 ≤ 2560) (v1 : Int32) : wpX_definitions (fun r => wpY_definitions (fun r' v' => r' = r ∧ i_Rel (k + 5) u v') v v1) u v1 := by
  have I0 := I
  obtain ⟨b, G, L, K, V, hp, hX, hY⟩ := I
  obtain ⟨f_built, f_productionCount, f_depth, a_ruleOf, a_marked, a_symbolCount, a_symbols, a_roles, a_derives, a_first, a_follow, a_textLength, a_kindAt, a_valueAt, a_failsAt, a_expectedAt, a_roleAt, a_scopeAt, a_openProduction, a_openNext, a_openStart, a_targetBefore⟩ := u
  have hX0 := hX
  obtain ⟨x1, x2, x3, x4, x5⟩ := hX
  cases b with
  | false =>
    obtain ⟨g_np, g_built, g_some, g_empty, g_wn, g_nt, b_pRule, b_pScope, b_pLen, b_sym, b_role, b_first, b_follow, b_kind, b_val, b_len, b_word, b_reach, b_beyond, b_way, b_known, b_bad, b_part, b_scopes, b_inner, b_tRule, b_tFrom, b_tTo, b_before⟩ := v
    have yside : wpY_definitions (fun r' v' => r' = 0 ∧ i_Rel (k + 5) (f_built, f_productionCount, f_depth, a_ruleOf, a_marked, a_symbolCount, a_symbols, a_roles, a_derives, a_first, a_follow, a_textLength, a_kindAt, a_valueAt, a_failsAt, a_expectedAt, a_roleAt, a_scopeAt, a_openProduction, a_openNext, a_openStart, a_targetBefore) v') (g_np, g_built, g_some, g_empty, g_wn, g_nt, b_pRule, b_pScope, b_pLen, b_sym, b_role, b_first, b_follow, b_kind, b_val, b_len, b_word, b_reach, b_beyond, b_way, b_known, b_bad, b_part, b_scopes, b_inner, b_tRule, b_tFrom, b_tTo, b_before) v1 := by
      unfold wpY_definitions wpY_count
      dsimp only
      exact br_t hY.1 ⟨rfl, I0⟩
    unfold wpX_definitions
    dsimp only
    refine xl_count (r := 1) (xl_0 hp.2.1 x3 (x5 rfl)) (by omega) _ (fun _ => yside) (fun f hf e => ?_)
    rw [cn_z (fun k hk => by show ¬ (0 : Nat) = 1; omega)]
    exact yside
  | true =>
    have hG := hp.2.2.1 rfl
    unfold wpX_definitions
    dsimp only
    refine xl_count (r := 1) (xl_t hG hp.2.1 x3 (x4 rfl).2) (by omega) _ (fun hn => ?_) (fun f hf e => ?_)
    · obtain ⟨g_np, g_built, g_some, g_empty, g_wn, g_nt, b_pRule, b_pScope, b_pLen, b_sym, b_role, b_first, b_follow, b_kind, b_val, b_len, b_word, b_reach, b_beyond, b_way, b_known, b_bad, b_part, b_scopes, b_inner, b_tRule, b_tFrom, b_tTo, b_before⟩ := v
      unfold wpY_definitions
      dsimp only
      exact yl_count (r := 1) hG hp.2.1 (ry_q hY) ⟨by omega, by omega⟩ _ (fun _ => ⟨rfl, I0⟩) (fun f hf e => absurd ⟨f, hf, e⟩ hn)
    · have hQ := ry_q hY
      obtain ⟨g_np, g_built, g_some, g_empty, g_wn, g_nt, b_pRule, b_pScope, b_pLen, b_sym, b_role, b_first, b_follow, b_kind, b_val, b_len, b_word, b_reach, b_beyond, b_way, b_known, b_bad, b_part, b_scopes, b_inner, b_tRule, b_tFrom, b_tTo, b_before⟩ := v
      unfold wpY_definitions
      dsimp only
      refine yl_count (r := 1) hG hp.2.1 hQ ⟨by omega, by omega⟩ _ (fun hn => absurd ⟨f, hf, e⟩ hn) (fun f' hf' e' v' hv' => ?_)
      obtain ⟨f_np, f_built, f_some, f_empty, f_wn, f_nt, a_pRule, a_pScope, a_pLen, a_sym, a_role, a_first, a_follow, a_kind, a_val, a_len, a_word, a_reach, a_beyond, a_way, a_known, a_bad, a_part, a_scopes, a_inner, a_tRule, a_tFrom, a_tTo, a_before⟩ := v'
      have ef : f' = f := (nI_eq (by omega) (by omega)).mp (e'.symm.trans e)
      subst ef
      exact ⟨rfl, true, G, L, K, V, hp, hX0, hv'.1⟩
theorem i_vc_references {k : Nat} {u : SX} {v : SY} (I : i_Rel k u v) (hk : k + 5 ≤ 2560) (v1 : Int32) : wpX_references (fun r => wpY_references (fun r' v' => r' = r ∧ i_Rel (k + 5) u v') v v1) u v1 := by
  have I0 := I
  obtain ⟨b, G, L, K, V, hp, hX, hY⟩ := I
  obtain ⟨f_built, f_productionCount, f_depth, a_ruleOf, a_marked, a_symbolCount, a_symbols, a_roles, a_derives, a_first, a_follow, a_textLength, a_kindAt, a_valueAt, a_failsAt, a_expectedAt, a_roleAt, a_scopeAt, a_openProduction, a_openNext, a_openStart, a_targetBefore⟩ := u
  have hX0 := hX
  obtain ⟨x1, x2, x3, x4, x5⟩ := hX
  cases b with
  | false =>
    obtain ⟨g_np, g_built, g_some, g_empty, g_wn, g_nt, b_pRule, b_pScope, b_pLen, b_sym, b_role, b_first, b_follow, b_kind, b_val, b_len, b_word, b_reach, b_beyond, b_way, b_known, b_bad, b_part, b_scopes, b_inner, b_tRule, b_tFrom, b_tTo, b_before⟩ := v
    have yside : wpY_references (fun r' v' => r' = 0 ∧ i_Rel (k + 5) (f_built, f_productionCount, f_depth, a_ruleOf, a_marked, a_symbolCount, a_symbols, a_roles, a_derives, a_first, a_follow, a_textLength, a_kindAt, a_valueAt, a_failsAt, a_expectedAt, a_roleAt, a_scopeAt, a_openProduction, a_openNext, a_openStart, a_targetBefore) v') (g_np, g_built, g_some, g_empty, g_wn, g_nt, b_pRule, b_pScope, b_pLen, b_sym, b_role, b_first, b_follow, b_kind, b_val, b_len, b_word, b_reach, b_beyond, b_way, b_known, b_bad, b_part, b_scopes, b_inner, b_tRule, b_tFrom, b_tTo, b_before) v1 := by
      unfold wpY_references wpY_count
      dsimp only
      exact br_t hY.1 ⟨rfl, I0⟩
    unfold wpX_references
    dsimp only
    refine xl_count (r := 2) (xl_0 hp.2.1 x3 (x5 rfl)) (by omega) _ (fun _ => yside) (fun f hf e => ?_)
    rw [cn_z (fun k hk => by show ¬ (0 : Nat) = 2; omega)]
    exact yside
  | true =>
    have hG := hp.2.2.1 rfl
    unfold wpX_references
    dsimp only
    refine xl_count (r := 2) (xl_t hG hp.2.1 x3 (x4 rfl).2) (by omega) _ (fun hn => ?_) (fun f hf e => ?_)
    · obtain ⟨g_np, g_built, g_some, g_empty, g_wn, g_nt, b_pRule, b_pScope, b_pLen, b_sym, b_role, b_first, b_follow, b_kind, b_val, b_len, b_word, b_reach, b_beyond, b_way, b_known, b_bad, b_part, b_scopes, b_inner, b_tRule, b_tFrom, b_tTo, b_before⟩ := v
      unfold wpY_references
      dsimp only
      exact yl_count (r := 2) hG hp.2.1 (ry_q hY) ⟨by omega, by omega⟩ _ (fun _ => ⟨rfl, I0⟩) (fun f hf e => absurd ⟨f, hf, e⟩ hn)
    · have hQ := ry_q hY
      obtain ⟨g_np, g_built, g_some, g_empty, g_wn, g_nt, b_pRule, b_pScope, b_pLen, b_sym, b_role, b_first, b_follow, b_kind, b_val, b_len, b_word, b_reach, b_beyond, b_way, b_known, b_bad, b_part, b_scopes, b_inner, b_tRule, b_tFrom, b_tTo, b_before⟩ := v
      unfold wpY_references
      dsimp only
      refine yl_count (r := 2) hG hp.2.1 hQ ⟨by omega, by omega⟩ _ (fun hn => absurd ⟨f, hf, e⟩ hn) (fun f' hf' e' v' hv' => ?_)
      obtain ⟨f_np, f_built, f_some, f_empty, f_wn, f_nt, a_pRule, a_pScope, a_pLen, a_sym, a_role, a_first, a_follow, a_kind, a_val, a_len, a_word, a_reach, a_beyond, a_way, a_known, a_bad, a_part, a_scopes, a_inner, a_tRule, a_tFrom, a_tTo, a_before⟩ := v'
      have ef : f' = f := (nI_eq (by omega) (by omega)).mp (e'.symm.trans e)
      subst ef
      exact ⟨rfl, true, G, L, K, V, hp, hX0, hv'.1⟩
theorem lk_pu {R : Nat → Nat → Nat} {f r x x' : Nat} {v : Int32} (h : lk_p R f r v x) (h' : lk_p R f r v x') : x = x' := by
  obtain ⟨a1, a2, a3⟩ := h
  obtain ⟨b1, b2, b3⟩ := h'
  have mono : ∀ a b, a < b → R f a = r → cn (fun x => R f x = r) a < cn (fun x => R f x = r) b := by
    intro a b hab ha
    have : ∀ k, cn (fun x => R f x = r) (a + 1) ≤ cn (fun x => R f x = r) (a + 1 + k) := by
      intro k
      induction k with
      | zero => exact Nat.le_refl _
      | succ k ik =>
        rw [show a + 1 + (k + 1) = a + 1 + k + 1 from by omega, cn_s _ (a + 1 + k)]
        omega
    have := this (b - (a + 1))
    rw [show a + 1 + (b - (a + 1)) = b from by omega, cn_s, b01_t ha] at this
    omega
  have c1 := cn_le (fun x => R f x = r) x
  have c2 := cn_le (fun x => R f x = r) x'
  have e := (nI_eq (by omega) (by omega)).mp (a3.symm.trans b3)
  rcases Nat.lt_trichotomy x x' with z | z | z
  · have := mono x x' z a2; omega
  · exact z
  · have := mono x' x z b2; omega
theorem i_vc_target {k : Nat} {u : SX} {v : SY} (I : i_Rel k u v) (hk : k + 5 ≤ 2560) (v1 : Int32) (v2 : Int32) : wpX_target (fun r => wpY_target (fun r' v' => r' = r ∧ i_Rel (k + 5) u v') v v1 v2) u v1 v2 := by
  have I0 := I
  obtain ⟨b, G, L, K, V, hp, hX, hY⟩ := I
  obtain ⟨f_built, f_productionCount, f_depth, a_ruleOf, a_marked, a_symbolCount, a_symbols, a_roles, a_derives, a_first, a_follow, a_textLength, a_kindAt, a_valueAt, a_failsAt, a_expectedAt, a_roleAt, a_scopeAt, a_openProduction, a_openNext, a_openStart, a_targetBefore⟩ := u
  have hX0 := hX
  obtain ⟨x1, x2, x3, x4, x5⟩ := hX
  cases b with
  | false =>
    obtain ⟨g_np, g_built, g_some, g_empty, g_wn, g_nt, b_pRule, b_pScope, b_pLen, b_sym, b_role, b_first, b_follow, b_kind, b_val, b_len, b_word, b_reach, b_beyond, b_way, b_known, b_bad, b_part, b_scopes, b_inner, b_tRule, b_tFrom, b_tTo, b_before⟩ := v
    unfold wpX_target
    dsimp only
    refine xl_place (r := 2) (xl_0 hp.2.1 x3 (x5 rfl)) (by omega) _ (fun _ => br_t rfl ?_) (fun f x hf e h => absurd h.2.1 (by show ¬ (0 : Nat) = 2; omega))
    unfold wpY_target wY_target_25 wY_target_26
    dsimp only
    exact br_t hY.1 (br_f (by decide) ⟨rfl, I0⟩)
  | true =>
    have hG := hp.2.2.1 rfl
    have hl := xl_t hG hp.2.1 x3 (x4 rfl).2
    have hQ := ry_q hY
    unfold wpX_target
    dsimp only
    refine xl_place (r := 2) hl (by omega) _ (fun hn => br_t rfl ?_) (fun f x hf e h => br_f (pl_n (by have := h.1; omega)) ?_)
    · obtain ⟨g_np, g_built, g_some, g_empty, g_wn, g_nt, b_pRule, b_pScope, b_pLen, b_sym, b_role, b_first, b_follow, b_kind, b_val, b_len, b_word, b_reach, b_beyond, b_way, b_known, b_bad, b_part, b_scopes, b_inner, b_tRule, b_tFrom, b_tTo, b_before⟩ := v
      unfold wpY_target
      dsimp only
      refine br_f (by rw [hY.1]; decide) (ym_isf _ (fun _ => br_t rfl ?_) (fun f hf e => br_f (by decide) ?_))
      · unfold wY_target_25 wY_target_26
        exact br_f (by decide) ⟨rfl, I0⟩
      · subst e
        refine yl_place (r := 2) hG hp.2.1 hQ hf ⟨by omega, by omega⟩ _ (fun x v' h _ _ => absurd ⟨f, x, hf, rfl, h⟩ hn) (fun v' _ hv' => ?_)
        obtain ⟨f_np, f_built, f_some, f_empty, f_wn, f_nt, a_pRule, a_pScope, a_pLen, a_sym, a_role, a_first, a_follow, a_kind, a_val, a_len, a_word, a_reach, a_beyond, a_way, a_known, a_bad, a_part, a_scopes, a_inner, a_tRule, a_tFrom, a_tTo, a_before⟩ := v'
        unfold wY_target_26
        exact br_f (by decide) ⟨rfl, true, G, L, K, V, hp, hX0, hv'.1⟩
    · subst e
      have hx := h.1
      -- Y's answer is the code of the target
      have yside : ∀ r : Int32, r = lk_w (pl_r G L K) (lk_t (pl_r G L K) (pl_c G L K) (pl_w V) f x) → wpY_target (fun r' v' => r' = r ∧ i_Rel (k + 5) (f_built, f_productionCount, f_depth, a_ruleOf, a_marked, a_symbolCount, a_symbols, a_roles, a_derives, a_first, a_follow, a_textLength, a_kindAt, a_valueAt, a_failsAt, a_expectedAt, a_roleAt, a_scopeAt, a_openProduction, a_openNext, a_openStart, a_targetBefore) v') v (nI f) v2 := by
        intro r hr
        obtain ⟨g_np, g_built, g_some, g_empty, g_wn, g_nt, b_pRule, b_pScope, b_pLen, b_sym, b_role, b_first, b_follow, b_kind, b_val, b_len, b_word, b_reach, b_beyond, b_way, b_known, b_bad, b_part, b_scopes, b_inner, b_tRule, b_tFrom, b_tTo, b_before⟩ := v
        unfold wpY_target
        dsimp only
        refine br_f (by rw [hY.1]; decide) (ym_isf _ (fun hn => absurd ⟨f, hf, rfl⟩ hn) (fun _ _ _ => br_f (by decide) ?_))
        refine yl_place (r := 2) hG hp.2.1 hQ hf ⟨by omega, by omega⟩ _ (fun x' v' h' hv' hk' => ?_) (fun v' hn _ => absurd h (hn x))
        have ex := lk_pu h h'
        subst ex
        have hr2 := h'.2.1
        obtain ⟨hd, _⟩ := pl_t (G := G) (L := L) (K := K) hG (f := f) (x := x) (by omega)
        obtain ⟨f_np, f_built, f_some, f_empty, f_wn, f_nt, a_pRule, a_pScope, a_pLen, a_sym, a_role, a_first, a_follow, a_kind, a_val, a_len, a_word, a_reach, a_beyond, a_way, a_known, a_bad, a_part, a_scopes, a_inner, a_tRule, a_tFrom, a_tTo, a_before⟩ := v'
        unfold wY_target_26
        refine br_t (nI_pos' (by omega)) (yl_link hG hp.2.1 hv' hf hx hk' hd _ (fun v3 hv3 => ?_))
        obtain ⟨f_np, f_built, f_some, f_empty, f_wn, f_nt, a_pRule, a_pScope, a_pLen, a_sym, a_role, a_first, a_follow, a_kind, a_val, a_len, a_word, a_reach, a_beyond, a_way, a_known, a_bad, a_part, a_scopes, a_inner, a_tRule, a_tFrom, a_tTo, a_before⟩ := v3
        exact ⟨hr.symm, true, G, L, K, V, hp, hX0, hv3.1⟩
      refine xl_tp hl hf hx _ (fun z => absurd h.2.1 z) (fun _ => ?_)
      unfold pl_o
      rcases Nat.lt_or_ge (lk_t (pl_r G L K) (pl_c G L K) (pl_w V) f x) 80 with z | z
      · rw [if_pos z]
        refine br_f (pl_n z) ⟨by decide, ?_⟩
        have ey : lk_t (pl_r G L K) (pl_c G L K) (pl_w V) f x = lk_t (pl_r G L K) (pl_c G L K) (pl_w V) f x / 20 * 20 + lk_t (pl_r G L K) (pl_c G L K) (pl_w V) f x % 20 := by omega
        have cl := cn_le (fun z => pl_r G L K (lk_t (pl_r G L K) (pl_c G L K) (pl_w V) f x / 20) z = 1) (lk_t (pl_r G L K) (pl_c G L K) (pl_w V) f x % 20)
        have dn := xl_dn (f_built := f_built) (f_productionCount := f_productionCount) (f_depth := f_depth) (a_ruleOf := a_ruleOf) (a_marked := a_marked) (a_symbolCount := a_symbolCount) (a_symbols := a_symbols) (a_roles := a_roles) (a_derives := a_derives) (a_first := a_first) (a_follow := a_follow) (a_textLength := a_textLength) (a_kindAt := a_kindAt) (a_valueAt := a_valueAt) (a_failsAt := a_failsAt) (a_expectedAt := a_expectedAt) (a_roleAt := a_roleAt) (a_scopeAt := a_scopeAt) (a_openProduction := a_openProduction) (a_openNext := a_openNext) (a_openStart := a_openStart) (a_targetBefore := a_targetBefore) hl (f := lk_t (pl_r G L K) (pl_c G L K) (pl_w V) f x / 20) (x := lk_t (pl_r G L K) (pl_c G L K) (pl_w V) f x % 20) (by omega) (by omega) (fun r => wpY_target (fun r' v' => r' = 32 * (nI (lk_t (pl_r G L K) (pl_c G L K) (pl_w V) f x) / 20) + r ∧ i_Rel (k + 5) (f_built, f_productionCount, f_depth, a_ruleOf, a_marked, a_symbolCount, a_symbols, a_roles, a_derives, a_first, a_follow, a_textLength, a_kindAt, a_valueAt, a_failsAt, a_expectedAt, a_roleAt, a_scopeAt, a_openProduction, a_openNext, a_openStart, a_targetBefore) v') v (nI f) v2) (yside _ (by
          unfold lk_w
          rw [if_pos z, show (20 : Int32) = nI 20 from rfl, pk_div (by omega) (by omega) (by omega), ba_32x]))
        rw [← ey] at dn
        exact dn
      · rw [if_neg (by omega)]
        refine br_t rfl (yside _ ?_)
        unfold lk_w
        rw [if_neg (by omega)]
theorem i_vc_duplicates {k : Nat} {u : SX} {v : SY} (I : i_Rel k u v) (hk : k + 5 ≤ 2560) (v1 : Int32) : wpX_duplicates (fun r => wpY_duplicates (fun r' v' => r' = r ∧ i_Rel (k + 5) u v') v v1) u v1 := by
  have I0 := I
  obtain ⟨b, G, L, K, V, hp, hX, hY⟩ := I
  obtain ⟨f_built, f_productionCount, f_depth, a_ruleOf, a_marked, a_symbolCount, a_symbols, a_roles, a_derives, a_first, a_follow, a_textLength, a_kindAt, a_valueAt, a_failsAt, a_expectedAt, a_roleAt, a_scopeAt, a_openProduction, a_openNext, a_openStart, a_targetBefore⟩ := u
  have hX0 := hX
  obtain ⟨x1, x2, x3, x4, x5⟩ := hX
  cases b with
  | false =>
    obtain ⟨g_np, g_built, g_some, g_empty, g_wn, g_nt, b_pRule, b_pScope, b_pLen, b_sym, b_role, b_first, b_follow, b_kind, b_val, b_len, b_word, b_reach, b_beyond, b_way, b_known, b_bad, b_part, b_scopes, b_inner, b_tRule, b_tFrom, b_tTo, b_before⟩ := v
    have yside : wpY_duplicates (fun r' v' => r' = 0 ∧ i_Rel (k + 5) (f_built, f_productionCount, f_depth, a_ruleOf, a_marked, a_symbolCount, a_symbols, a_roles, a_derives, a_first, a_follow, a_textLength, a_kindAt, a_valueAt, a_failsAt, a_expectedAt, a_roleAt, a_scopeAt, a_openProduction, a_openNext, a_openStart, a_targetBefore) v') (g_np, g_built, g_some, g_empty, g_wn, g_nt, b_pRule, b_pScope, b_pLen, b_sym, b_role, b_first, b_follow, b_kind, b_val, b_len, b_word, b_reach, b_beyond, b_way, b_known, b_bad, b_part, b_scopes, b_inner, b_tRule, b_tFrom, b_tTo, b_before) v1 := by
      unfold wpY_duplicates
      dsimp only
      refine ⟨1, ?_⟩
      rw [wY_duplicates_7]
      exact br_f (by decide) (br_t hY.1 ⟨rfl, I0⟩)
    refine xl_dup (xl_0 hp.2.1 x3 (x5 rfl)) _ (fun _ => yside) (fun f hf e => ?_)
    rw [cn_z (fun k hk z => absurd z.1 (by show ¬ (0 : Nat) = 1; omega))]
    exact yside
  | true =>
    have hG := hp.2.2.1 rfl
    refine xl_dup (xl_t hG hp.2.1 x3 (x4 rfl).2) _ (fun hn => yl_dup hG hp.2.1 (ry_q hY) _ (fun _ => ⟨rfl, I0⟩) (fun f hf e => absurd ⟨f, hf, e⟩ hn)) (fun f hf e => yl_dup hG hp.2.1 (ry_q hY) _ (fun hn => absurd ⟨f, hf, e⟩ hn) (fun f' hf' e' v' hv' => ?_))
    have ef : f' = f := (nI_eq (by omega) (by omega)).mp (e'.symm.trans e)
    subst ef
    exact ⟨rfl, true, G, L, K, V, hp, hX0, hv'.1⟩
theorem i_vc_unresolved {k : Nat} {u : SX} {v : SY} (I : i_Rel k u v) (hk : k + 5 ≤ 2560) : wpX_unresolved (fun r => wpY_unresolved (fun r' v' => r' = r ∧ i_Rel (k + 5) u v') v) u := by
  have I0 := I
  obtain ⟨b, G, L, K, V, hp, hX, hY⟩ := I
  obtain ⟨f_built, f_productionCount, f_depth, a_ruleOf, a_marked, a_symbolCount, a_symbols, a_roles, a_derives, a_first, a_follow, a_textLength, a_kindAt, a_valueAt, a_failsAt, a_expectedAt, a_roleAt, a_scopeAt, a_openProduction, a_openNext, a_openStart, a_targetBefore⟩ := u
  have hX0 := hX
  obtain ⟨x1, x2, x3, x4, x5⟩ := hX
  cases b with
  | false =>
    obtain ⟨g_np, g_built, g_some, g_empty, g_wn, g_nt, b_pRule, b_pScope, b_pLen, b_sym, b_role, b_first, b_follow, b_kind, b_val, b_len, b_word, b_reach, b_beyond, b_way, b_known, b_bad, b_part, b_scopes, b_inner, b_tRule, b_tFrom, b_tTo, b_before⟩ := v
    refine ⟨80 + 1, xl_u4 (xl_0 hp.2.1 x3 (x5 rfl)) _ ?_ 80 0 (by omega)⟩
    rw [cn_z (fun k hk z => absurd z.1 (by show ¬ (0 : Nat) = 2; omega))]
    unfold wpY_unresolved
    dsimp only
    exact br_t hY.1 ⟨rfl, I0⟩
  | true =>
    have hG := hp.2.2.1 rfl
    refine ⟨80 + 1, xl_u4 (xl_t hG hp.2.1 x3 (x4 rfl).2) _ ?_ 80 0 (by omega)⟩
    have g := yl_u11 hG hp.2.1 (fun r' v' => r' = nI (cn (lk_v (pl_r G L K) (pl_c G L K) (pl_w V)) 80) ∧ i_Rel (k + 5) (f_built, f_productionCount, f_depth, a_ruleOf, a_marked, a_symbolCount, a_symbols, a_roles, a_derives, a_first, a_follow, a_textLength, a_kindAt, a_valueAt, a_failsAt, a_expectedAt, a_roleAt, a_scopeAt, a_openProduction, a_openNext, a_openStart, a_targetBefore) v') (fun v' hv' => ⟨rfl, true, G, L, K, V, hp, hX0, hv'.1⟩) 4 0 v (by omega) (ry_q hY)
    obtain ⟨g_np, g_built, g_some, g_empty, g_wn, g_nt, b_pRule, b_pScope, b_pLen, b_sym, b_role, b_first, b_follow, b_kind, b_val, b_len, b_word, b_reach, b_beyond, b_way, b_known, b_bad, b_part, b_scopes, b_inner, b_tRule, b_tFrom, b_tTo, b_before⟩ := v
    unfold wpY_unresolved
    dsimp only
    exact br_f (by rw [hY.1]; decide) ⟨4 + 1, g⟩
end
section
/-! rename: the pure side -/
theorem lk_is {R C W : Nat → Nat → Nat} {f x n : Nat} (h : lk_i R C W f x n < 20) : lk_I R C W f x n (lk_i R C W f x n) := by
  rcases Classical.em (∃ r, lk_I R C W f x n r) with ⟨r, z⟩ | z
  · rw [lk_ie z]; exact z
  · exfalso
    have : lk_i R C W f x n = 20 := cl_f (fun r y => z ⟨r, y⟩)
    omega
theorem lk_td {R C W : Nat → Nat → Nat} {f x : Nat} (h : lk_t R C W f x < 80) : R (lk_t R C W f x / 20) (lk_t R C W f x % 20) = 1 := by
  rcases Nat.lt_or_ge (lk_i R C W f x (W f x)) 20 with z | z
  · have e : lk_t R C W f x = f * 20 + lk_i R C W f x (W f x) := by unfold lk_t; rw [if_pos z]
    rw [e, show (f * 20 + lk_i R C W f x (W f x)) / 20 = f from by omega, show (f * 20 + lk_i R C W f x (W f x)) % 20 = lk_i R C W f x (W f x) from by omega]
    rcases lk_is z with ⟨y, _⟩ | ⟨y, _⟩
    · exact y.2.1
    · omega
  · have e : lk_t R C W f x = lk_m R C W f (W f x) := by unfold lk_t; rw [if_neg (by omega)]
    rw [e] at h ⊢
    unfold lk_m at h ⊢
    obtain ⟨a, b, c, d⟩ := lq_s (P := lk_a R C W f (W f x)) 20 0
    generalize lq (lk_a R C W f (W f x)) 20 0 = p at a b c d h ⊢
    rcases Nat.lt_or_ge p 20 with y | y
    · have hp := c (by omega)
      have hq := (lk_qs R C W (W f p % 4) (W f x)).2 hp.2
      have h20 := hp.2
      have e : lk_e R C W f (W f x) p = (W f p % 4) * 20 + lk_q R C W (W f p % 4) (W f x) := by unfold lk_e; rw [if_pos y]
      rw [e, show ((W f p % 4) * 20 + lk_q R C W (W f p % 4) (W f x)) / 20 = W f p % 4 from by omega, show ((W f p % 4) * 20 + lk_q R C W (W f p % 4) (W f x)) % 20 = lk_q R C W (W f p % 4) (W f x) from by omega]
      exact hq.1
    · unfold lk_e at h
      rw [if_neg (by omega)] at h
      omega
theorem lw_e {R : Nat → Nat → Nat} {y z : Nat} (hy : y ≤ 80) (hz : z ≤ 80) (h1 : y < 80 → R (y / 20) (y % 20) = 1) (h2 : z < 80 → R (z / 20) (z % 20) = 1) (h : lk_w R y = lk_w R z) : y = z := by
  have c1 := cn_le (fun t => R (y / 20) t = 1) (y % 20)
  have c2 := cn_le (fun t => R (z / 20) t = 1) (z % 20)
  unfold lk_w at h
  rcases Nat.lt_or_ge y 80 with a | a
  · rw [if_pos a] at h
    rcases Nat.lt_or_ge z 80 with b | b
    · rw [if_pos b] at h
      have e := (nI_eq (by omega) (by omega)).mp h
      have ef : y / 20 = z / 20 := by omega
      have p1 : lk_p R (y / 20) 1 (nI (cn (fun t => R (y / 20) t = 1) (y % 20))) (y % 20) := ⟨by omega, h1 a, rfl⟩
      have p2 : lk_p R (y / 20) 1 (nI (cn (fun t => R (y / 20) t = 1) (y % 20))) (z % 20) := ⟨by omega, by rw [ef]; exact h2 b, by rw [ef] at e ⊢; exact congrArg nI (by omega)⟩
      have := lk_pu p1 p2
      omega
    · rw [if_neg (by omega)] at h
      have := nI_pos' (n := y / 20 * 32 + cn (fun t => R (y / 20) t = 1) (y % 20)) (by omega)
      rw [h] at this
      exact absurd this (by decide)
  · rw [if_neg (by omega)] at h
    rcases Nat.lt_or_ge z 80 with b | b
    · rw [if_pos b] at h
      have := nI_pos' (n := z / 20 * 32 + cn (fun t => R (z / 20) t = 1) (z % 20)) (by omega)
      rw [← h] at this
      exact absurd this (by decide)
    · omega
/-- the tokens that a renaming of the definition at e names -/
def rn_s (R C W : Nat → Nat → Nat) (e y : Nat) : Prop := y = e ∨ (R (y / 20) (y % 20) = 2 ∧ lk_t R C W (y / 20) (y % 20) = e)
noncomputable def rn_V (R C W : Nat → Nat → Nat) (V : Nat → Nat) (e n y : Nat) : Nat := @ite Nat (rn_s R C W e y) (Classical.propDecidable _) n (V y)
theorem rn_t {R C W : Nat → Nat → Nat} {V : Nat → Nat} {e n y : Nat} (h : rn_s R C W e y) : rn_V R C W V e n y = n := if_pos h
theorem rn_f {R C W : Nat → Nat → Nat} {V : Nat → Nat} {e n y : Nat} (h : ¬ rn_s R C W e y) : rn_V R C W V e n y = V y := if_neg h
theorem rn_ok {R C W : Nat → Nat → Nat} {L K V : Nat → Nat} {e n : Nat} (hT : tx_ok L K V) (hn : n < 16) : tx_ok L K (rn_V R C W V e n) := by
  refine ⟨hT.1, fun y hy => ⟨(hT.2 y hy).1, ?_⟩⟩
  rcases Classical.em (rn_s R C W e y) with z | z
  · rw [rn_t z]; exact hn
  · rw [rn_f z]; exact (hT.2 y hy).2
def rn_c (R C W W' : Nat → Nat → Nat) (f : Nat) : Prop := (∀ y, y < 80 → R (y / 20) (y % 20) = 2 → lk_t R C W' (y / 20) (y % 20) = lk_t R C W (y / 20) (y % 20)) ∧ cn (lk_u R C W' f) 20 = cn (lk_u R C W f) 20
noncomputable def xr_b (R C W : Nat → Nat → Nat) (y : Nat) : Int32 := if R (y / 20) (y % 20) = 2 then pl_o (lk_t R C W (y / 20) (y % 20)) else -1
theorem xr_e {R C W : Nat → Nat → Nat} {e y : Nat} (he : e < 80) (hy : y < 80) : (xr_b R C W y = nI e) ↔ (R (y / 20) (y % 20) = 2 ∧ lk_t R C W (y / 20) (y % 20) = e) := by
  unfold xr_b
  split
  · next h =>
    unfold pl_o
    split
    · next h2 =>
      rw [nI_eq (by omega) (by omega)]
      exact ⟨fun z => ⟨h, z⟩, fun z => z.2⟩
    · next h2 => exact ⟨fun z => absurd z.symm (pl_n he), fun z => by omega⟩
  · next h => exact ⟨fun z => absurd z.symm (pl_n he), fun z => absurd z.1 h⟩
theorem pl_oi {y z : Nat} (hy : y ≤ 80) (hz : z ≤ 80) (h : pl_o y = pl_o z) : y = z := by
  unfold pl_o at h
  rcases Nat.lt_or_ge y 80 with a | a
  · rw [if_pos a] at h
    rcases Nat.lt_or_ge z 80 with b | b
    · rw [if_pos b] at h
      exact (nI_eq (by omega) (by omega)).mp h
    · rw [if_neg (by omega)] at h
      exact absurd h (pl_n a)
  · rw [if_neg (by omega)] at h
    rcases Nat.lt_or_ge z 80 with b | b
    · rw [if_pos b] at h
      exact absurd h.symm (pl_n b)
    · omega
/-! X's side -/
section
variable {f_built f_productionCount f_depth : Int32} {a_ruleOf a_marked a_symbolCount a_symbols a_roles a_derives a_first a_follow a_textLength a_kindAt a_valueAt a_failsAt a_expectedAt a_roleAt a_scopeAt a_openProduction a_openNext a_openStart a_targetBefore : Nat → Int32} {R C W : Nat → Nat → Nat}
theorem xr_tp (hl : xl_ok R C W a_roleAt a_scopeAt a_valueAt) {y : Nat} (hy : y < 80) (post : Int32 → Prop) (h : post (xr_b R C W y)) : wpX_targetPlace post (f_built, f_productionCount, f_depth, a_ruleOf, a_marked, a_symbolCount, a_symbols, a_roles, a_derives, a_first, a_follow, a_textLength, a_kindAt, a_valueAt, a_failsAt, a_expectedAt, a_roleAt, a_scopeAt, a_openProduction, a_openNext, a_openStart, a_targetBefore) (nI y) := by
  have ey : y / 20 * 20 + y % 20 = y := by omega
  have tp := xl_tp (f_built := f_built) (f_productionCount := f_productionCount) (f_depth := f_depth) (a_ruleOf := a_ruleOf) (a_marked := a_marked) (a_symbolCount := a_symbolCount) (a_symbols := a_symbols) (a_roles := a_roles) (a_derives := a_derives) (a_first := a_first) (a_follow := a_follow) (a_textLength := a_textLength) (a_kindAt := a_kindAt) (a_valueAt := a_valueAt) (a_failsAt := a_failsAt) (a_expectedAt := a_expectedAt) (a_roleAt := a_roleAt) (a_scopeAt := a_scopeAt) (a_openProduction := a_openProduction) (a_openNext := a_openNext) (a_openStart := a_openStart) (a_targetBefore := a_targetBefore) hl (f := y / 20) (x := y % 20) (by omega) (by omega) post
  rw [ey] at tp
  unfold xr_b at h
  exact tp (fun z => by rw [if_neg z] at h; exact h) (fun z => by rw [if_pos z] at h; exact h)
theorem xr_k2 (hl : xl_ok R C W a_roleAt a_scopeAt a_valueAt) (post : SX → Prop) (hP : ∀ TB, (∀ y, y < 80 → TB y = xr_b R C W y) → post (f_built, f_productionCount, f_depth, a_ruleOf, a_marked, a_symbolCount, a_symbols, a_roles, a_derives, a_first, a_follow, a_textLength, a_kindAt, a_valueAt, a_failsAt, a_expectedAt, a_roleAt, a_scopeAt, a_openProduction, a_openNext, a_openStart, TB)) :
    ∀ d y TB, y + d = 80 → (∀ z, z < y → TB z = xr_b R C W z) → wX_keepTargets_2 post f_built f_productionCount f_depth (d + 1) (nI y) a_ruleOf a_marked a_symbolCount a_symbols a_roles a_derives a_first a_follow a_textLength a_kindAt a_valueAt a_failsAt a_expectedAt a_roleAt a_scopeAt a_openProduction a_openNext a_openStart TB := by
  intro d
  induction d with
  | zero =>
    intro y TB hy hI
    rw [wX_keepTargets_2]
    dsimp only
    exact br_t (nI_le (a := 80) (by omega) (by omega)) (hP TB (fun z hz => hI z (by omega)))
  | succ d ih =>
    intro y TB hy hI
    have cY : (nI y).toNatClampNeg = y := nI_clamp (by omega)
    rw [wX_keepTargets_2]
    dsimp only
    rw [cY]
    refine br_f (nI_ge (b := 80) (by omega) (by omega)) (xr_tp hl (by omega) _ ⟨vp_in_nI (by omega) (by omega), nm_e (nm_r (nI_1 y) (ih (y + 1) _ (by omega) (fun z hz => ?_)))⟩)
    rcases Classical.em (z = y) with e | e
    · subst e; exact pk_us
    · exact (pk_un e).trans (hI z (by omega))
theorem xr_g9 {e n : Nat} {VA0 : Nat → Int32} (he : e < 80) (post : SX → Prop) (hP : ∀ VA, (∀ y, y < 80 → (y = e ∨ a_targetBefore y = nI e → VA y = nI n) ∧ (¬ (y = e ∨ a_targetBefore y = nI e) → VA y = VA0 y)) → post (f_built, f_productionCount, f_depth, a_ruleOf, a_marked, a_symbolCount, a_symbols, a_roles, a_derives, a_first, a_follow, a_textLength, a_kindAt, VA, a_failsAt, a_expectedAt, a_roleAt, a_scopeAt, a_openProduction, a_openNext, a_openStart, a_targetBefore)) :
    ∀ d y VA, y + d = 80 → (∀ z, z < 80 → (z = e ∨ (z < y ∧ a_targetBefore z = nI e) → VA z = nI n) ∧ (¬ (z = e ∨ (z < y ∧ a_targetBefore z = nI e)) → VA z = VA0 z)) → wX_giveName_9 post (nI e) (nI n) f_built f_productionCount f_depth (d + 1) (nI y) a_ruleOf a_marked a_symbolCount a_symbols a_roles a_derives a_first a_follow a_textLength a_kindAt VA a_failsAt a_expectedAt a_roleAt a_scopeAt a_openProduction a_openNext a_openStart a_targetBefore := by
  intro d
  induction d with
  | zero =>
    intro y VA hy hI
    rw [wX_giveName_9]
    dsimp only
    refine br_t (nI_le (a := 80) (by omega) (by omega)) (hP VA (fun z hz => ⟨fun q => (hI z hz).1 (q.elim Or.inl (fun t => Or.inr ⟨by omega, t⟩)), fun q => (hI z hz).2 (fun t => q (t.elim Or.inl (fun s => Or.inr s.2)))⟩))
  | succ d ih =>
    intro y VA hy hI
    have cY : (nI y).toNatClampNeg = y := nI_clamp (by omega)
    have iY : vp_in (nI y) 80 := vp_in_nI (by omega) (by omega)
    rw [wX_giveName_9]
    dsimp only
    rw [cY]
    refine br_f (nI_ge (b := 80) (by omega) (by omega)) ⟨iY, br_c (fun h => ⟨iY, nm_e (nm_r (nI_1 y) (ih (y + 1) _ (by omega) (fun z hz => ?_)))⟩) (fun h => nm_r (nI_1 y) (ih (y + 1) _ (by omega) (fun z hz => ?_)))⟩
    · rcases Classical.em (z = y) with q | q
      · subst q
        exact ⟨fun _ => pk_us, fun t => absurd (Or.inr ⟨by omega, h⟩) t⟩
      · refine ⟨fun t => (pk_un q).trans ((hI z hz).1 (t.elim Or.inl (fun s => Or.inr ⟨by omega, s.2⟩))), fun t => (pk_un q).trans ((hI z hz).2 (fun s => t (s.elim Or.inl (fun r => Or.inr ⟨by omega, r.2⟩))))⟩
    · refine ⟨fun t => (hI z hz).1 (t.elim Or.inl (fun s => Or.inr ⟨?_, s.2⟩)), fun t => (hI z hz).2 (fun s => t (s.elim Or.inl (fun r => Or.inr ⟨by omega, r.2⟩)))⟩
      rcases Classical.em (z = y) with q | q
      · subst q; exact absurd s.2 h
      · omega
theorem xr_give {e n : Nat} (he : e < 80) (post : SX → Prop) (hP : ∀ VA, (∀ y, y < 80 → (y = e ∨ a_targetBefore y = nI e → VA y = nI n) ∧ (¬ (y = e ∨ a_targetBefore y = nI e) → VA y = a_valueAt y)) → post (f_built, f_productionCount, f_depth, a_ruleOf, a_marked, a_symbolCount, a_symbols, a_roles, a_derives, a_first, a_follow, a_textLength, a_kindAt, VA, a_failsAt, a_expectedAt, a_roleAt, a_scopeAt, a_openProduction, a_openNext, a_openStart, a_targetBefore)) : wpX_giveName post (f_built, f_productionCount, f_depth, a_ruleOf, a_marked, a_symbolCount, a_symbols, a_roles, a_derives, a_first, a_follow, a_textLength, a_kindAt, a_valueAt, a_failsAt, a_expectedAt, a_roleAt, a_scopeAt, a_openProduction, a_openNext, a_openStart, a_targetBefore) (nI e) (nI n) := by
  have cE : (nI e).toNatClampNeg = e := nI_clamp (by omega)
  unfold wpX_giveName
  dsimp only
  rw [cE]
  refine ⟨vp_in_nI he (by omega), nm_e ⟨80 + 1, xr_g9 he post hP 80 0 _ (by omega) (fun z hz => ?_)⟩⟩
  rcases Classical.em (z = e) with q | q
  · subst q
    exact ⟨fun _ => pk_us, fun t => absurd (Or.inl rfl) t⟩
  · exact ⟨fun t => t.elim (fun s => absurd s q) (fun s => by omega), fun _ => pk_un q⟩
theorem xr_a2 (hl : xl_ok R C W a_roleAt a_scopeAt a_valueAt) (post : Int32 → Prop) (h1 : (∀ y, y < 80 → xr_b R C W y = a_targetBefore y) → post 1) (h0 : (¬ ∀ y, y < 80 → xr_b R C W y = a_targetBefore y) → post 0) :
    ∀ d y, y + d = 80 → (∀ z, z < y → xr_b R C W z = a_targetBefore z) → wX_targetsAreAsKept_2 post f_built f_productionCount f_depth a_ruleOf a_marked a_symbolCount a_symbols a_roles a_derives a_first a_follow a_textLength a_kindAt a_valueAt a_failsAt a_expectedAt a_roleAt a_scopeAt a_openProduction a_openNext a_openStart a_targetBefore (d + 1) (nI y) := by
  intro d
  induction d with
  | zero =>
    intro y hy hI
    rw [wX_targetsAreAsKept_2]
    dsimp only
    exact br_t (nI_le (a := 80) (by omega) (by omega)) (h1 (fun z hz => hI z (by omega)))
  | succ d ih =>
    intro y hy hI
    have cY : (nI y).toNatClampNeg = y := nI_clamp (by omega)
    rw [wX_targetsAreAsKept_2]
    dsimp only
    rw [cY]
    refine br_f (nI_ge (b := 80) (by omega) (by omega)) (xr_tp hl (by omega) _ ⟨vp_in_nI (by omega) (by omega), br_c (fun h => nm_r (nI_1 y) (ih (y + 1) (by omega) (fun z hz => ?_))) (fun h => h0 (fun z => h (z y (by omega))))⟩)
    rcases Classical.em (z = y) with q | q
    · subst q; exact h
    · exact hI z (by omega)
end
section
variable {f_built f_productionCount f_depth : Int32} {a_ruleOf a_marked a_symbolCount a_symbols a_roles a_derives a_first a_follow a_textLength a_kindAt a_valueAt a_failsAt a_expectedAt a_roleAt a_scopeAt a_openProduction a_openNext a_openStart a_targetBefore : Nat → Int32} {G : gm_G} {L K V : Nat → Nat}
theorem xm_rename (hG : gm_gd G) (hT : tx_ok L K V) (hX : rx_R true G L K V (f_built, f_productionCount, f_depth, a_ruleOf, a_marked, a_symbolCount, a_symbols, a_roles, a_derives, a_first, a_follow, a_textLength, a_kindAt, a_valueAt, a_failsAt, a_expectedAt, a_roleAt, a_scopeAt, a_openProduction, a_openNext, a_openStart, a_targetBefore)) {v1 v2 v3 : Int32} (post : Int32 → SX → Prop) (h0 : (¬ ∃ f x n, f < 4 ∧ v1 = nI f ∧ lk_p (pl_r G L K) f 1 v2 x ∧ n < 16 ∧ v3 = nI n) → post 0 (f_built, f_productionCount, f_depth, a_ruleOf, a_marked, a_symbolCount, a_symbols, a_roles, a_derives, a_first, a_follow, a_textLength, a_kindAt, a_valueAt, a_failsAt, a_expectedAt, a_roleAt, a_scopeAt, a_openProduction, a_openNext, a_openStart, a_targetBefore))
    (h1 : ∀ f x n, f < 4 → v1 = nI f → lk_p (pl_r G L K) f 1 v2 x → n < 16 → v3 = nI n → (rn_c (pl_r G L K) (pl_c G L K) (pl_w V) (pl_w (rn_V (pl_r G L K) (pl_c G L K) (pl_w V) V (f * 20 + x) n)) f → ∀ u, rx_R true G L K (rn_V (pl_r G L K) (pl_c G L K) (pl_w V) V (f * 20 + x) n) u → post 1 u) ∧ (¬ rn_c (pl_r G L K) (pl_c G L K) (pl_w V) (pl_w (rn_V (pl_r G L K) (pl_c G L K) (pl_w V) V (f * 20 + x) n)) f → ∀ u, rx_R true G L K (rn_V (pl_r G L K) (pl_c G L K) (pl_w V) (rn_V (pl_r G L K) (pl_c G L K) (pl_w V) V (f * 20 + x) n) (f * 20 + x) (V (f * 20 + x))) u → post 0 u)) : wpX_rename post (f_built, f_productionCount, f_depth, a_ruleOf, a_marked, a_symbolCount, a_symbols, a_roles, a_derives, a_first, a_follow, a_textLength, a_kindAt, a_valueAt, a_failsAt, a_expectedAt, a_roleAt, a_scopeAt, a_openProduction, a_openNext, a_openStart, a_targetBefore) v1 v2 v3 := by
  obtain ⟨x1, x2, x3, x4, x5⟩ := hX
  obtain ⟨b1, b2⟩ := x4 rfl
  have hl := xl_t hG hT x3 b2
  unfold wpX_rename
  dsimp only
  refine xl_place (r := 1) hl (by omega) _ (fun hn => br_t rfl (h0 (fun ⟨f, x, n, a, b, c, _⟩ => hn ⟨f, x, a, b, c⟩))) (fun f x hf e hpl => br_f (pl_n (by have := hpl.1; omega)) ?_)
  have hx := hpl.1
  refine br_c (fun h => h0 (fun ⟨_, _, n, _, _, _, a, b⟩ => ?_)) (fun h => br_c (fun h' => ?_) (fun h' => h0 (fun ⟨_, _, n, _, _, _, a, b⟩ => ?_)))
  · subst b; exact nI_pos (by omega) h
  · obtain ⟨n, hn, e3⟩ := ba_ix (n := 16) (by omega) h (ba_lp h')
    obtain ⟨k1, k0⟩ := h1 f x n hf e hpl hn e3
    subst e e3
    have cE : (nI (f * 20 + x)).toNatClampNeg = f * 20 + x := nI_clamp (by omega)
    have he : f * 20 + x < 80 := by omega
    rw [cE]
    refine ⟨vp_in_nI he (by omega), nm_r (x3.2 _ he).2 (xl_dup hl _ (fun hn => absurd ⟨f, hf, rfl⟩ hn) (fun f0 _ e0 => ?_))⟩
    have ef : f0 = f := (nI_eq (by omega) (by omega)).mp e0.symm
    subst ef
    refine ⟨80 + 1, xr_k2 hl _ (fun TB hTB => ?_) 80 0 a_targetBefore (by omega) (fun z h => by omega)⟩
    dsimp only
    refine xr_give he _ (fun VA hVA => ?_)
    dsimp only
    -- the values after the writes
    have sel : ∀ y, y < 80 → ((y = f0 * 20 + x ∨ TB y = nI (f0 * 20 + x)) ↔ rn_s (pl_r G L K) (pl_c G L K) (pl_w V) (f0 * 20 + x) y) := fun y hy => by
      rw [hTB y hy, xr_e he hy]
      exact Iff.rfl
    have hr' : rx_t L K (rn_V (pl_r G L K) (pl_c G L K) (pl_w V) V (f0 * 20 + x) n) a_textLength a_kindAt VA := ⟨x3.1, fun y hy => ⟨(x3.2 y hy).1, by
      rcases Classical.em (rn_s (pl_r G L K) (pl_c G L K) (pl_w V) (f0 * 20 + x) y) with z | z
      · rw [rn_t z]; exact (hVA y hy).1 ((sel y hy).mpr z)
      · rw [rn_f z, (hVA y hy).2 (fun t => z ((sel y hy).mp t))]; exact (x3.2 y hy).2⟩⟩
    have hT' := rn_ok (R := pl_r G L K) (C := pl_c G L K) (W := pl_w V) (e := f0 * 20 + x) (n := n) hT hn
    have hl' := xl_t hG hT' hr' b2
    have v16 := (hT.2 _ he).2
    -- the way back
    have back : ¬ rn_c (pl_r G L K) (pl_c G L K) (pl_w V) (pl_w (rn_V (pl_r G L K) (pl_c G L K) (pl_w V) V (f0 * 20 + x) n)) f0 → wX_rename_73 post (nI (f0 * 20 + x)) (nI (V (f0 * 20 + x))) f_built f_productionCount f_depth a_ruleOf a_marked a_symbolCount a_symbols a_roles a_derives a_first a_follow a_textLength a_kindAt VA a_failsAt a_expectedAt a_roleAt a_scopeAt a_openProduction a_openNext a_openStart TB := fun hno => by
      unfold wX_rename_73
      refine xr_give he _ (fun VB hVB => k0 hno _ ⟨x1, x2, ⟨x3.1, fun y hy => ⟨(x3.2 y hy).1, ?_⟩⟩, x4, x5⟩)
      rcases Classical.em (rn_s (pl_r G L K) (pl_c G L K) (pl_w V) (f0 * 20 + x) y) with z | z
      · rw [rn_t z]; exact (hVB y hy).1 ((sel y hy).mpr z)
      · rw [rn_f z, (hVB y hy).2 (fun t => z ((sel y hy).mp t))]; exact (hr'.2 y hy).2
    have tsame : (∀ y, y < 80 → xr_b (pl_r G L K) (pl_c G L K) (pl_w (rn_V (pl_r G L K) (pl_c G L K) (pl_w V) V (f0 * 20 + x) n)) y = TB y) ↔ (∀ y, y < 80 → pl_r G L K (y / 20) (y % 20) = 2 → lk_t (pl_r G L K) (pl_c G L K) (pl_w (rn_V (pl_r G L K) (pl_c G L K) (pl_w V) V (f0 * 20 + x) n)) (y / 20) (y % 20) = lk_t (pl_r G L K) (pl_c G L K) (pl_w V) (y / 20) (y % 20)) := by
      constructor
      · intro z y hy h2
        have q := z y hy
        rw [hTB y hy] at q
        unfold xr_b at q
        rw [if_pos h2, if_pos h2] at q
        exact pl_oi (lk_t80 (by omega)) (lk_t80 (by omega)) q
      · intro z y hy
        rw [hTB y hy]
        unfold xr_b
        split
        · next h2 => rw [z y hy h2]
        · rfl
    unfold wpX_targetsAreAsKept
    dsimp only
    refine ⟨80 + 1, xr_a2 hl' _ (fun z => br_f (by decide) (xl_dup hl' _ (fun hn => absurd ⟨f0, hf, rfl⟩ hn) (fun f1 _ e1 => ?_))) (fun z => br_t rfl (back (fun y => z (tsame.mpr y.1)))) 80 0 (by omega) (fun z h => by omega)⟩
    have ef : f1 = f0 := (nI_eq (by omega) (by omega)).mp e1.symm
    subst ef
    have l1 := cn_le (lk_u (pl_r G L K) (pl_c G L K) (pl_w V) f1) 20
    have l2 := cn_le (lk_u (pl_r G L K) (pl_c G L K) (pl_w (rn_V (pl_r G L K) (pl_c G L K) (pl_w V) V (f1 * 20 + x) n)) f1) 20
    refine ek_if (nI_eq (by omega) (by omega)) (fun q => k1 ⟨tsame.mp z, q⟩ _ ⟨x1, x2, hr', x4, x5⟩) (fun q => back (fun y => q y.2))
  · subst b; exact h' (nI_lt (b := 16) a (by omega))
end
end
section
/-! rename: Y's side -/
noncomputable def yr_b (R C W : Nat → Nat → Nat) (y : Nat) : Int32 := if R (y / 20) (y % 20) = 2 then lk_w R (lk_t R C W (y / 20) (y % 20)) else -2
theorem ba_n16 : ∀ k, k < 700 → (nI k).toInt16.toInt32 = nI k := by decide +kernel
theorem lw_sh {R : Nat → Nat → Nat} {y : Nat} (hy : y ≤ 80) : vp_nar .short (lk_w R y).toInt16.toInt32 = lk_w R y := by
  have c1 := cn_le (fun t => R (y / 20) t = 1) (y % 20)
  rw [vp_nar_short]
  unfold lk_w
  split
  · rw [ba_n16 _ (by omega), ba_n16 _ (by omega)]
  · decide
theorem lw_g {R : Nat → Nat → Nat} {y : Nat} (hy : y ≤ 80) : ¬ lk_w R y ≤ -2 := by
  have c1 := cn_le (fun t => R (y / 20) t = 1) (y % 20)
  unfold lk_w
  split
  · intro z
    have := Int32.le_trans (nI_pos' (n := y / 20 * 32 + cn (fun t => R (y / 20) t = 1) (y % 20)) (by omega)) z
    exact absurd this (by decide)
  · decide
theorem ba_dv {y : Nat} (hy : y < 80) : nI y / 20 = nI (y / 20) := by rw [show (20 : Int32) = nI 20 from rfl, pk_div (by omega) (by omega) (by omega)]
theorem ba_md {y : Nat} (hy : y < 80) : nI y - nI y / 20 * 20 = nI (y % 20) := by rw [show (20 : Int32) = nI 20 from rfl, pk_rem (by omega) (by omega) (by omega)]
section
variable {f_np f_built f_some f_empty f_wn f_nt : Int32} {a_pRule a_pScope a_pLen a_sym a_role a_first a_follow a_kind a_val a_len a_word a_reach a_beyond a_way a_known a_bad a_part a_scopes a_inner a_tRule a_tFrom a_tTo a_before : Nat → Int32}
theorem yr_v17 {e n cd : Nat} {f dn : Nat} {VA0 : Nat → Int32} (hn : n < 16) (hcd : cd = f * 32 + dn) (post : SY → Prop) (hP : ∀ VA, (∀ y, y < 80 → (y = e ∨ a_before y = nI cd → VA y = nI n) ∧ (¬ (y = e ∨ a_before y = nI cd) → VA y = VA0 y)) → post (f_np, f_built, f_some, f_empty, f_wn, f_nt, a_pRule, a_pScope, a_pLen, a_sym, a_role, a_first, a_follow, a_kind, VA, a_len, a_word, a_reach, a_beyond, a_way, a_known, a_bad, a_part, a_scopes, a_inner, a_tRule, a_tFrom, a_tTo, a_before)) :
    ∀ d y VA, y + d = 80 → (∀ z, z < 80 → (z = e ∨ (z < y ∧ a_before z = nI cd) → VA z = nI n) ∧ (¬ (z = e ∨ (z < y ∧ a_before z = nI cd)) → VA z = VA0 z)) → wY_revalue_17 post (nI f) (nI dn) (nI n) f_np f_built f_some f_empty f_wn f_nt (d + 1) (nI y) a_pRule a_pScope a_pLen a_sym a_role a_first a_follow a_kind VA a_len a_word a_reach a_beyond a_way a_known a_bad a_part a_scopes a_inner a_tRule a_tFrom a_tTo a_before := by
  intro d
  induction d with
  | zero =>
    intro y VA hy hI
    rw [wY_revalue_17]
    dsimp only
    refine br_t (nI_le (a := 80) (by omega) (by omega)) (hP VA (fun z hz => ⟨fun q => (hI z hz).1 (q.elim Or.inl (fun t => Or.inr ⟨by omega, t⟩)), fun q => (hI z hz).2 (fun t => q (t.elim Or.inl (fun s => Or.inr s.2)))⟩))
  | succ d ih =>
    intro y VA hy hI
    have cY : (nI y).toNatClampNeg = y := nI_clamp (by omega)
    have iY : vp_in (nI y) 80 := vp_in_nI (by omega) (by omega)
    rw [wY_revalue_17]
    dsimp only
    rw [cY, ba_32x, ← hcd, ba_nb n (by omega), ba_vb (k := n) (by omega)]
    refine br_f (nI_ge (b := 80) (by omega) (by omega)) ⟨iY, br_c (fun h => ⟨iY, nm_e (nm_r (nI_1 y) (ih (y + 1) _ (by omega) (fun z hz => ?_)))⟩) (fun h => nm_r (nI_1 y) (ih (y + 1) _ (by omega) (fun z hz => ?_)))⟩
    · rcases Classical.em (z = y) with q | q
      · subst q
        exact ⟨fun _ => pk_us, fun t => absurd (Or.inr ⟨by omega, h⟩) t⟩
      · refine ⟨fun t => (pk_un q).trans ((hI z hz).1 (t.elim Or.inl (fun s => Or.inr ⟨by omega, s.2⟩))), fun t => (pk_un q).trans ((hI z hz).2 (fun s => t (s.elim Or.inl (fun r => Or.inr ⟨by omega, r.2⟩))))⟩
    · refine ⟨fun t => (hI z hz).1 (t.elim Or.inl (fun s => Or.inr ⟨?_, s.2⟩)), fun t => (hI z hz).2 (fun s => t (s.elim Or.inl (fun r => Or.inr ⟨by omega, r.2⟩)))⟩
      rcases Classical.em (z = y) with q | q
      · subst q; exact absurd s.2 h
      · omega
theorem yr_rev {n f x dn : Nat} (hf : f < 4) (hx : x < 20) (hn : n < 16) (post : SY → Prop) (hP : ∀ VA, (∀ y, y < 80 → (y = f * 20 + x ∨ a_before y = nI (f * 32 + dn) → VA y = nI n) ∧ (¬ (y = f * 20 + x ∨ a_before y = nI (f * 32 + dn)) → VA y = a_val y)) → post (f_np, f_built, f_some, f_empty, f_wn, f_nt, a_pRule, a_pScope, a_pLen, a_sym, a_role, a_first, a_follow, a_kind, VA, a_len, a_word, a_reach, a_beyond, a_way, a_known, a_bad, a_part, a_scopes, a_inner, a_tRule, a_tFrom, a_tTo, a_before)) : wpY_revalue post (f_np, f_built, f_some, f_empty, f_wn, f_nt, a_pRule, a_pScope, a_pLen, a_sym, a_role, a_first, a_follow, a_kind, a_val, a_len, a_word, a_reach, a_beyond, a_way, a_known, a_bad, a_part, a_scopes, a_inner, a_tRule, a_tFrom, a_tTo, a_before) (nI f) (nI x) (nI dn) (nI n) := by
  have cE : (nI (f * 20 + x)).toNatClampNeg = f * 20 + x := nI_clamp (by omega)
  unfold wpY_revalue
  dsimp only
  rw [ba_20x, cE, ba_nb n (by omega), ba_vb (k := n) (by omega)]
  refine ⟨vp_in_nI (by omega) (by omega), nm_e ⟨80 + 1, yr_v17 hn rfl post hP 80 0 _ (by omega) (fun z hz => ?_)⟩⟩
  rcases Classical.em (z = f * 20 + x) with q | q
  · subst q
    exact ⟨fun _ => pk_us, fun t => absurd (Or.inl rfl) t⟩
  · exact ⟨fun t => t.elim (fun s => absurd s q) (fun s => by omega), fun _ => pk_un q⟩
end
end
section
/-! rename: Y keeps the targets -/
section
variable {f_np f_built f_some f_empty f_wn f_nt : Int32} {a_pRule a_pScope a_pLen a_sym a_role a_first a_follow a_kind a_val a_len a_word a_reach a_beyond a_way a_known a_bad a_part a_scopes a_inner a_tRule a_tFrom a_tTo a_before : Nat → Int32} {G : gm_G} {L K V : Nat → Nat} {B : Nat → Int32} {S : Nat → Prop}
theorem yr_qb {B' : Nat → Int32} (h : ry_Q G L K V B S (f_np, f_built, f_some, f_empty, f_wn, f_nt, a_pRule, a_pScope, a_pLen, a_sym, a_role, a_first, a_follow, a_kind, a_val, a_len, a_word, a_reach, a_beyond, a_way, a_known, a_bad, a_part, a_scopes, a_inner, a_tRule, a_tFrom, a_tTo, a_before)) : ry_Q G L K V B' S (f_np, f_built, f_some, f_empty, f_wn, f_nt, a_pRule, a_pScope, a_pLen, a_sym, a_role, a_first, a_follow, a_kind, a_val, a_len, a_word, a_reach, a_beyond, a_way, a_known, a_bad, a_part, a_scopes, a_inner, a_tRule, a_tFrom, a_tTo, B') := by
  obtain ⟨⟨h1, h2, h3, h4⟩, _, h6⟩ := h
  exact ⟨⟨h1, h2, h3, h4⟩, rfl, fun g hg hs => ⟨(h6 g hg hs).1, (h6 g hg hs).2⟩⟩
theorem yr_qv {V' : Nat → Nat} {VA : Nat → Int32} (hr : rx_t L K V' a_len a_kind VA) (h : ry_Q G L K V B S (f_np, f_built, f_some, f_empty, f_wn, f_nt, a_pRule, a_pScope, a_pLen, a_sym, a_role, a_first, a_follow, a_kind, a_val, a_len, a_word, a_reach, a_beyond, a_way, a_known, a_bad, a_part, a_scopes, a_inner, a_tRule, a_tFrom, a_tTo, a_before)) : ry_Q G L K V' B S (f_np, f_built, f_some, f_empty, f_wn, f_nt, a_pRule, a_pScope, a_pLen, a_sym, a_role, a_first, a_follow, a_kind, VA, a_len, a_word, a_reach, a_beyond, a_way, a_known, a_bad, a_part, a_scopes, a_inner, a_tRule, a_tFrom, a_tTo, a_before) := by
  obtain ⟨⟨h1, h2, h3, h4⟩, h5, h6⟩ := h
  exact ⟨⟨h1, h2, hr, h4⟩, h5, fun g hg hs => ⟨(h6 g hg hs).1, (h6 g hg hs).2⟩⟩
theorem yr_bB (h : ry_Q G L K V B S (f_np, f_built, f_some, f_empty, f_wn, f_nt, a_pRule, a_pScope, a_pLen, a_sym, a_role, a_first, a_follow, a_kind, a_val, a_len, a_word, a_reach, a_beyond, a_way, a_known, a_bad, a_part, a_scopes, a_inner, a_tRule, a_tFrom, a_tTo, a_before)) : a_before = B := h.2.1
end
section
variable {G : gm_G} {L K V : Nat → Nat}
/-- all targets are kept -/
theorem yr_k69 (hG : gm_gd G) (hT : tx_ok L K V) (post : Int32 → SY → Prop) (x1 x2 x3 x4 x5 x6 : Int32)
    (hP : ∀ v B, ry_Q G L K V B (fun _ => True) v → (∀ z, z < 80 → B z = yr_b (pl_r G L K) (pl_c G L K) (pl_w V) z) → match v with | (f_np, f_built, f_some, f_empty, f_wn, f_nt, a_pRule, a_pScope, a_pLen, a_sym, a_role, a_first, a_follow, a_kind, a_val, a_len, a_word, a_reach, a_beyond, a_way, a_known, a_bad, a_part, a_scopes, a_inner, a_tRule, a_tFrom, a_tTo, a_before) => wY_rename_69 post x1 x2 x3 x4 x5 x6 (0 + 1) (nI 80) f_np f_built f_some f_empty f_wn f_nt a_pRule a_pScope a_pLen a_sym a_role a_first a_follow a_kind a_val a_len a_word a_reach a_beyond a_way a_known a_bad a_part a_scopes a_inner a_tRule a_tFrom a_tTo a_before) :
    ∀ d y v B, y + d = 80 → ry_Q G L K V B (fun g => g * 20 < y) v → (∀ z, z < y → B z = yr_b (pl_r G L K) (pl_c G L K) (pl_w V) z) → match v with | (f_np, f_built, f_some, f_empty, f_wn, f_nt, a_pRule, a_pScope, a_pLen, a_sym, a_role, a_first, a_follow, a_kind, a_val, a_len, a_word, a_reach, a_beyond, a_way, a_known, a_bad, a_part, a_scopes, a_inner, a_tRule, a_tFrom, a_tTo, a_before) => wY_rename_69 post x1 x2 x3 x4 x5 x6 (d + 1) (nI y) f_np f_built f_some f_empty f_wn f_nt a_pRule a_pScope a_pLen a_sym a_role a_first a_follow a_kind a_val a_len a_word a_reach a_beyond a_way a_known a_bad a_part a_scopes a_inner a_tRule a_tFrom a_tTo a_before := by
  intro d
  induction d with
  | zero =>
    intro y v B hy hv hB
    have e : y = 80 := by omega
    subst e
    exact hP v B ⟨hv.1, hv.2.1, fun g hg _ => hv.2.2 g hg (by omega)⟩ hB
  | succ d ih =>
    intro y v B hy hv hB
    have hy80 : y < 80 := by omega
    have hf : y / 20 < 4 := by omega
    have hx : y % 20 < 20 := by omega
    have cY : (nI y).toNatClampNeg = y := nI_clamp (by omega)
    have iY : vp_in (nI y) 80 := vp_in_nI (by omega) (by omega)
    have n20 : ¬ (20 : Int32) = 0 := by decide
    have t80 := lk_t80 (R := pl_r G L K) (C := pl_c G L K) (W := pl_w V) (f := y / 20) (x := y % 20) hf
    -- the next turn, from a state with its new entry
    have nx : ∀ v', ry_Q G L K V B (fun g => g * 20 < y + 1) v' → match v' with | (f_np, f_built, f_some, f_empty, f_wn, f_nt, a_pRule, a_pScope, a_pLen, a_sym, a_role, a_first, a_follow, a_kind, a_val, a_len, a_word, a_reach, a_beyond, a_way, a_known, a_bad, a_part, a_scopes, a_inner, a_tRule, a_tFrom, a_tTo, a_before) => wY_rename_69 post x1 x2 x3 x4 x5 x6 (d + 1) (nI (y + 1)) f_np f_built f_some f_empty f_wn f_nt a_pRule a_pScope a_pLen a_sym a_role a_first a_follow a_kind a_val a_len a_word a_reach a_beyond a_way a_known a_bad a_part a_scopes a_inner a_tRule a_tFrom a_tTo (upd a_before y (yr_b (pl_r G L K) (pl_c G L K) (pl_w V) y)) := by
      intro v' hv'
      have q := ih (y + 1)
      obtain ⟨f_np, f_built, f_some, f_empty, f_wn, f_nt, a_pRule, a_pScope, a_pLen, a_sym, a_role, a_first, a_follow, a_kind, a_val, a_len, a_word, a_reach, a_beyond, a_way, a_known, a_bad, a_part, a_scopes, a_inner, a_tRule, a_tFrom, a_tTo, a_before⟩ := v'
      refine q (f_np, f_built, f_some, f_empty, f_wn, f_nt, a_pRule, a_pScope, a_pLen, a_sym, a_role, a_first, a_follow, a_kind, a_val, a_len, a_word, a_reach, a_beyond, a_way, a_known, a_bad, a_part, a_scopes, a_inner, a_tRule, a_tFrom, a_tTo, upd a_before y (yr_b (pl_r G L K) (pl_c G L K) (pl_w V) y)) (upd a_before y (yr_b (pl_r G L K) (pl_c G L K) (pl_w V) y)) (by omega) (yr_qb hv') (fun z hz => ?_)
      rcases Classical.em (z = y) with e | e
      · subst e; exact pk_us
      · rw [pk_un e]
        have eB : a_before = B := yr_bB hv'
        rw [eB]
        exact hB z (by omega)
    have more : ∀ v', ry_Q G L K V B (fun g => g * 20 < y) v' → ry_K G L K (y / 20) v' → ry_Q G L K V B (fun g => g * 20 < y + 1) v' := fun v' h1 h2 => ⟨h1.1, h1.2.1, fun g hg hs => by
      rcases Nat.lt_or_ge (g * 20) y with z | z
      · exact h1.2.2 g hg z
      · have e : g = y / 20 := by omega
        subst e; exact h2⟩
    obtain ⟨f_np, f_built, f_some, f_empty, f_wn, f_nt, a_pRule, a_pScope, a_pLen, a_sym, a_role, a_first, a_follow, a_kind, a_val, a_len, a_word, a_reach, a_beyond, a_way, a_known, a_bad, a_part, a_scopes, a_inner, a_tRule, a_tFrom, a_tTo, a_before⟩ := v
    dsimp only
    rw [wY_rename_69]
    refine br_f (nI_ge (b := 80) (by omega) (by omega)) ⟨n20, n20, ?_⟩
    rw [ba_md hy80, ba_dv hy80]
    refine yl_is (r := 2) hG hT hv hf hx ⟨by omega, by omega⟩ _ (fun e v' hv' hk' => ?_) (fun e v' hv' hk' => ?_)
    · obtain ⟨hd, _⟩ := pl_t (G := G) (L := L) (K := K) hG (f := y / 20) (x := y % 20) (by omega)
      have hm := more v' hv' hk'
      obtain ⟨f_np, f_built, f_some, f_empty, f_wn, f_nt, a_pRule, a_pScope, a_pLen, a_sym, a_role, a_first, a_follow, a_kind, a_val, a_len, a_word, a_reach, a_beyond, a_way, a_known, a_bad, a_part, a_scopes, a_inner, a_tRule, a_tFrom, a_tTo, a_before⟩ := v'
      refine br_f (by decide) ⟨n20, n20, yl_link hG hT hm hf hx hk' hd _ (fun v2 hv2 => ?_)⟩
      have q := nx v2 hv2
      obtain ⟨f_np, f_built, f_some, f_empty, f_wn, f_nt, a_pRule, a_pScope, a_pLen, a_sym, a_role, a_first, a_follow, a_kind, a_val, a_len, a_word, a_reach, a_beyond, a_way, a_known, a_bad, a_part, a_scopes, a_inner, a_tRule, a_tFrom, a_tTo, a_before⟩ := v2
      dsimp only at q ⊢
      rw [cY, lw_sh t80]
      unfold yr_b at q
      rw [if_pos e] at q
      exact ⟨iY, nm_e (nm_r (nI_1 y) q)⟩
    · have q := nx v' (more v' hv' hk')
      obtain ⟨f_np, f_built, f_some, f_empty, f_wn, f_nt, a_pRule, a_pScope, a_pLen, a_sym, a_role, a_first, a_follow, a_kind, a_val, a_len, a_word, a_reach, a_beyond, a_way, a_known, a_bad, a_part, a_scopes, a_inner, a_tRule, a_tFrom, a_tTo, a_before⟩ := v'
      dsimp only at q ⊢
      rw [cY]
      unfold yr_b at q
      rw [if_neg e] at q
      exact br_t rfl ⟨iY, nm_r (congrArg _ (by rw [vp_nar_short]; decide)) (nm_r (nI_1 y) q)⟩
end
end
section
/-! rename: Y's side, on -/
section
variable {G : gm_G} {L K V : Nat → Nat}
/-- the targets are compared -/
theorem yr_c156 (hG : gm_gd G) {V' : Nat → Nat} (hT : tx_ok L K V') {B : Nat → Int32} (hB : ∀ z, z < 80 → B z = yr_b (pl_r G L K) (pl_c G L K) (pl_w V) z) (post : Int32 → SY → Prop) (x1 x2 x4 x5 : Int32) {P0 : Prop}
    (hP1 : (P0 ∧ ∀ z, z < 80 → pl_r G L K (z / 20) (z % 20) = 2 → lk_t (pl_r G L K) (pl_c G L K) (pl_w V') (z / 20) (z % 20) = lk_t (pl_r G L K) (pl_c G L K) (pl_w V) (z / 20) (z % 20)) → ∀ v, ry_Q G L K V' B (fun _ => True) v → post 1 v)
    (hP0 : (¬ (P0 ∧ ∀ z, z < 80 → pl_r G L K (z / 20) (z % 20) = 2 → lk_t (pl_r G L K) (pl_c G L K) (pl_w V') (z / 20) (z % 20) = lk_t (pl_r G L K) (pl_c G L K) (pl_w V) (z / 20) (z % 20))) → ∀ v, ry_Q G L K V' B (fun _ => True) v → wpY_revalue (fun u => post 0 u) v x1 x4 x2 x5) :
    ∀ d y x7 v, y + d = 80 → ry_Q G L K V' B (fun _ => True) v → yw_f x7 (P0 ∧ ∀ z, z < y → pl_r G L K (z / 20) (z % 20) = 2 → lk_t (pl_r G L K) (pl_c G L K) (pl_w V') (z / 20) (z % 20) = lk_t (pl_r G L K) (pl_c G L K) (pl_w V) (z / 20) (z % 20)) → match v with | (f_np, f_built, f_some, f_empty, f_wn, f_nt, a_pRule, a_pScope, a_pLen, a_sym, a_role, a_first, a_follow, a_kind, a_val, a_len, a_word, a_reach, a_beyond, a_way, a_known, a_bad, a_part, a_scopes, a_inner, a_tRule, a_tFrom, a_tTo, a_before) => wY_rename_156 post x1 x2 x4 x5 (d + 1) x7 (nI y) f_np f_built f_some f_empty f_wn f_nt a_pRule a_pScope a_pLen a_sym a_role a_first a_follow a_kind a_val a_len a_word a_reach a_beyond a_way a_known a_bad a_part a_scopes a_inner a_tRule a_tFrom a_tTo a_before := by
  intro d
  induction d with
  | zero =>
    intro y x7 v hy hv hf
    have e : y = 80 := by omega
    subst e
    rcases hf with ⟨rfl, hf⟩ | ⟨rfl, hf⟩
    · have h := hP1 hf v hv
      obtain ⟨f_np, f_built, f_some, f_empty, f_wn, f_nt, a_pRule, a_pScope, a_pLen, a_sym, a_role, a_first, a_follow, a_kind, a_val, a_len, a_word, a_reach, a_beyond, a_way, a_known, a_bad, a_part, a_scopes, a_inner, a_tRule, a_tFrom, a_tTo, a_before⟩ := v
      dsimp only
      rw [wY_rename_156]
      exact br_t (nI_le (a := 80) (by omega) (by omega)) (br_f (by decide) ⟨rfl, h⟩)
    · have h := hP0 hf v hv
      obtain ⟨f_np, f_built, f_some, f_empty, f_wn, f_nt, a_pRule, a_pScope, a_pLen, a_sym, a_role, a_first, a_follow, a_kind, a_val, a_len, a_word, a_reach, a_beyond, a_way, a_known, a_bad, a_part, a_scopes, a_inner, a_tRule, a_tFrom, a_tTo, a_before⟩ := v
      dsimp only
      rw [wY_rename_156]
      refine br_t (nI_le (a := 80) (by omega) (by omega)) (br_t rfl ?_)
      have nb : narrow .boolean (.int (0 : Int32)) = .int 0 := rfl
      simp only [nb, true_and]
      exact h
  | succ d ih =>
    intro y x7 v hy hv hf
    have hy80 : y < 80 := by omega
    have hfl : y / 20 < 4 := by omega
    have hx : y % 20 < 20 := by omega
    have cY : (nI y).toNatClampNeg = y := nI_clamp (by omega)
    have iY : vp_in (nI y) 80 := vp_in_nI (by omega) (by omega)
    have n20 : ¬ (20 : Int32) = 0 := by decide
    have t80 := lk_t80 (R := pl_r G L K) (C := pl_c G L K) (W := pl_w V) (f := y / 20) (x := y % 20) hfl
    have t80' := lk_t80 (R := pl_r G L K) (C := pl_c G L K) (W := pl_w V') (f := y / 20) (x := y % 20) hfl
    have hBy := hB y hy80
    unfold yr_b at hBy
    have ok : (pl_r G L K (y / 20) (y % 20) = 2 → lk_t (pl_r G L K) (pl_c G L K) (pl_w V') (y / 20) (y % 20) = lk_t (pl_r G L K) (pl_c G L K) (pl_w V) (y / 20) (y % 20)) → yw_f x7 (P0 ∧ ∀ z, z < y + 1 → pl_r G L K (z / 20) (z % 20) = 2 → lk_t (pl_r G L K) (pl_c G L K) (pl_w V') (z / 20) (z % 20) = lk_t (pl_r G L K) (pl_c G L K) (pl_w V) (z / 20) (z % 20)) := fun h => yw_fi ⟨fun q => ⟨q.1, fun z hz => by
        rcases Classical.em (z = y) with e | e
        · subst e; exact h
        · exact q.2 z (by omega)⟩, fun q => ⟨q.1, fun z hz => q.2 z (by omega)⟩⟩ hf
    have hbf := congrFun hv.2.1 y
    have hkk := hv.2.2 (y / 20) hfl trivial
    have ihv := ih (y + 1)
    obtain ⟨f_np, f_built, f_some, f_empty, f_wn, f_nt, a_pRule, a_pScope, a_pLen, a_sym, a_role, a_first, a_follow, a_kind, a_val, a_len, a_word, a_reach, a_beyond, a_way, a_known, a_bad, a_part, a_scopes, a_inner, a_tRule, a_tFrom, a_tTo, a_before⟩ := v
    have hbf : a_before y = B y := hbf
    dsimp only
    rw [wY_rename_156]
    refine br_f (nI_ge (b := 80) (by omega) (by omega)) ?_
    rcases Classical.em (pl_r G L K (y / 20) (y % 20) = 2) with e | e
    · rw [if_pos e] at hBy
      obtain ⟨hd, _⟩ := pl_t (G := G) (L := L) (K := K) hG (f := y / 20) (x := y % 20) (by omega)
      refine ⟨iY, br_f (by rw [cY, hbf, hBy]; exact lw_g t80) ⟨n20, n20, ?_⟩⟩
      rw [ba_md hy80, ba_dv hy80]
      refine yl_link hG hT hv hfl hx hkk hd _ (fun v2 hv2 => ?_)
      have hb2 := congrFun hv2.2.1 y
      rcases Classical.em (lk_t (pl_r G L K) (pl_c G L K) (pl_w V') (y / 20) (y % 20) = lk_t (pl_r G L K) (pl_c G L K) (pl_w V) (y / 20) (y % 20)) with q | q
      · have g := ihv x7 v2 (by omega) hv2 (ok (fun _ => q))
        obtain ⟨f_np, f_built, f_some, f_empty, f_wn, f_nt, a_pRule, a_pScope, a_pLen, a_sym, a_role, a_first, a_follow, a_kind, a_val, a_len, a_word, a_reach, a_beyond, a_way, a_known, a_bad, a_part, a_scopes, a_inner, a_tRule, a_tFrom, a_tTo, a_before⟩ := v2
        have hb2 : a_before y = B y := hb2
        dsimp only at g ⊢
        rw [cY, hb2, hBy, q]
        exact ⟨iY, br_t rfl (nm_r (nI_1 y) g)⟩
      · have g := ihv 0 v2 (by omega) hv2 (Or.inr ⟨rfl, fun z => q (z.2 y (by omega) e)⟩)
        obtain ⟨f_np, f_built, f_some, f_empty, f_wn, f_nt, a_pRule, a_pScope, a_pLen, a_sym, a_role, a_first, a_follow, a_kind, a_val, a_len, a_word, a_reach, a_beyond, a_way, a_known, a_bad, a_part, a_scopes, a_inner, a_tRule, a_tFrom, a_tTo, a_before⟩ := v2
        have hb2 : a_before y = B y := hb2
        dsimp only at g ⊢
        rw [cY, hb2, hBy]
        exact ⟨iY, br_f (fun z => q (lw_e t80' t80 lk_td lk_td z)) (nm_r (nI_1 y) g)⟩
    · rw [if_neg e] at hBy
      exact ⟨iY, br_t (by rw [cY, hbf, hBy]; decide) (nm_r (nI_1 y) (ihv x7 _ (by omega) hv (ok (fun z => absurd z e))))⟩
theorem yr_s {e y : Nat} (he : e < 80) (hd : pl_r G L K (e / 20) (e % 20) = 1) (hy : y < 80) : (yr_b (pl_r G L K) (pl_c G L K) (pl_w V) y = lk_w (pl_r G L K) e) ↔ (pl_r G L K (y / 20) (y % 20) = 2 ∧ lk_t (pl_r G L K) (pl_c G L K) (pl_w V) (y / 20) (y % 20) = e) := by
  have t80 := lk_t80 (R := pl_r G L K) (C := pl_c G L K) (W := pl_w V) (f := y / 20) (x := y % 20) (by omega)
  unfold yr_b
  split
  · next h => exact ⟨fun z => ⟨h, lw_e t80 (by omega) lk_td (fun _ => hd) z⟩, fun z => by rw [z.2]⟩
  · next h => exact ⟨fun z => absurd (by rw [← z]; decide) (lw_g (R := pl_r G L K) (y := e) (by omega)), fun z => absurd z.1 h⟩
theorem ym_rename {v : SY} (hG : gm_gd G) (hT : tx_ok L K V) (hY : ry_R true G L K V v) {v1 v2 v3 : Int32} (post : Int32 → SY → Prop) (h0 : (¬ ∃ f x n, f < 4 ∧ v1 = nI f ∧ lk_p (pl_r G L K) f 1 v2 x ∧ n < 16 ∧ v3 = nI n) → ∀ v', ry_R true G L K V v' → post 0 v')
    (h1 : ∀ f x n, f < 4 → v1 = nI f → lk_p (pl_r G L K) f 1 v2 x → n < 16 → v3 = nI n → (rn_c (pl_r G L K) (pl_c G L K) (pl_w V) (pl_w (rn_V (pl_r G L K) (pl_c G L K) (pl_w V) V (f * 20 + x) n)) f → ∀ v', ry_R true G L K (rn_V (pl_r G L K) (pl_c G L K) (pl_w V) V (f * 20 + x) n) v' → post 1 v') ∧ (¬ rn_c (pl_r G L K) (pl_c G L K) (pl_w V) (pl_w (rn_V (pl_r G L K) (pl_c G L K) (pl_w V) V (f * 20 + x) n)) f → ∀ v', ry_R true G L K (rn_V (pl_r G L K) (pl_c G L K) (pl_w V) (rn_V (pl_r G L K) (pl_c G L K) (pl_w V) V (f * 20 + x) n) (f * 20 + x) (V (f * 20 + x))) v' → post 0 v')) : wpY_rename post v v1 v2 v3 := by
  have hQ := ry_q hY
  have hY0 := hY
  obtain ⟨f_np, f_built, f_some, f_empty, f_wn, f_nt, a_pRule, a_pScope, a_pLen, a_sym, a_role, a_first, a_follow, a_kind, a_val, a_len, a_word, a_reach, a_beyond, a_way, a_known, a_bad, a_part, a_scopes, a_inner, a_tRule, a_tFrom, a_tTo, a_before⟩ := v
  unfold wpY_rename
  dsimp only
  refine br_f (by rw [hY.1]; decide) (ym_isf _ (fun hn => br_t rfl ?_) (fun f hf e => br_f (by decide) ?_))
  · unfold wY_rename_25 wY_rename_26
    exact br_t (by decide) (h0 (fun ⟨f, _, _, a, b, _⟩ => hn ⟨f, a, b⟩) _ hY0)
  · subst e
    refine yl_place (r := 1) hG hT hQ hf ⟨by omega, by omega⟩ _ (fun x v' hpl hv' hk' => ?_) (fun v' hn hv' => ?_)
    · have hx := hpl.1
      have hv1 := hv'.1
      have hd1 := hpl.2.1
      obtain ⟨f_np, f_built, f_some, f_empty, f_wn, f_nt, a_pRule, a_pScope, a_pLen, a_sym, a_role, a_first, a_follow, a_kind, a_val, a_len, a_word, a_reach, a_beyond, a_way, a_known, a_bad, a_part, a_scopes, a_inner, a_tRule, a_tFrom, a_tTo, a_before⟩ := v'
      unfold wY_rename_26
      refine br_f (nI_pos (by omega)) (br_c (fun h => h0 (fun ⟨_, _, n, _, _, _, a, b⟩ => ?_) _ hv1) (fun h => br_c (fun h' => ?_) (fun h' => h0 (fun ⟨_, _, n, _, _, _, a, b⟩ => ?_) _ hv1)))
      · subst b; exact nI_pos (by omega) h
      · obtain ⟨n, hn, e3⟩ := ba_ix (v := v3) (n := 16) (by omega) h (fun q => Int32.lt_irrefl (Int32.lt_of_lt_of_le (show (15 : Int32) < 16 from by decide) (Int32.le_trans q h')))
        obtain ⟨k1, k0⟩ := h1 f x n hf rfl hpl hn e3
        have e2 := hpl.2.2
        have cE : (nI (f * 20 + x)).toNatClampNeg = f * 20 + x := nI_clamp (by omega)
        have he : f * 20 + x < 80 := by omega
        have v16 := (hT.2 _ he).2
        have hdE : pl_r G L K ((f * 20 + x) / 20) ((f * 20 + x) % 20) = 1 := by
          rw [show (f * 20 + x) / 20 = f from by omega, show (f * 20 + x) % 20 = x from by omega]; exact hd1
        have cdE : lk_w (pl_r G L K) (f * 20 + x) = nI (f * 32 + cn (fun x => pl_r G L K f x = 1) x) := lw_n hf hx
        subst e2 e3
        rw [ba_20x, cE]
        refine ⟨vp_in_nI he (by omega), nm_r (hv1.2.2.1.2 _ he).2 (yl_dup hG hT hv' _ (fun hn => absurd ⟨f, hf, rfl⟩ hn) (fun f0 _ e0 v3 hv3 => ?_))⟩
        have ef : f0 = f := (nI_eq (by omega) (by omega)).mp e0.symm
        subst ef
        have hT' := rn_ok (R := pl_r G L K) (C := pl_c G L K) (W := pl_w V) (e := f0 * 20 + x) (n := n) hT hn
        have l1 := cn_le (lk_u (pl_r G L K) (pl_c G L K) (pl_w V) f0) 20
        have l2 := cn_le (lk_u (pl_r G L K) (pl_c G L K) (pl_w (rn_V (pl_r G L K) (pl_c G L K) (pl_w V) V (f0 * 20 + x) n)) f0) 20
        have g := yr_k69 hG hT post (nI f0) (nI (cn (fun x => pl_r G L K f0 x = 1) x)) (nI n) (nI x) (nI (V (f0 * 20 + x))) (nI (cn (lk_u (pl_r G L K) (pl_c G L K) (pl_w V) f0) 20)) (fun v4 B hv4 hB => ?_) 80 0 v3 (ry_B v3) (by omega) ⟨hv3.1, rfl, fun g hg hs => by omega⟩ (fun z h => by omega)
        · obtain ⟨f_np, f_built, f_some, f_empty, f_wn, f_nt, a_pRule, a_pScope, a_pLen, a_sym, a_role, a_first, a_follow, a_kind, a_val, a_len, a_word, a_reach, a_beyond, a_way, a_known, a_bad, a_part, a_scopes, a_inner, a_tRule, a_tFrom, a_tTo, a_before⟩ := v3
          exact ⟨80 + 1, g⟩
        · -- what the codes select
          have sel : ∀ (BF : Nat → Int32), BF = B → ∀ y, y < 80 → ((y = f0 * 20 + x ∨ BF y = nI (f0 * 32 + cn (fun x => pl_r G L K f0 x = 1) x)) ↔ rn_s (pl_r G L K) (pl_c G L K) (pl_w V) (f0 * 20 + x) y) := fun BF hBF y hy => by
            rw [hBF, hB y hy, ← cdE, yr_s he hdE hy]
            exact Iff.rfl
          have hbf := hv4.2.1
          have hkn := hv4.2.2
          obtain ⟨f_np, f_built, f_some, f_empty, f_wn, f_nt, a_pRule, a_pScope, a_pLen, a_sym, a_role, a_first, a_follow, a_kind, a_val, a_len, a_word, a_reach, a_beyond, a_way, a_known, a_bad, a_part, a_scopes, a_inner, a_tRule, a_tFrom, a_tTo, a_before⟩ := v4
          have hbf : a_before = B := hbf
          obtain ⟨z1, z2, z3, z4⟩ := hv4.1
          dsimp only
          rw [wY_rename_69]
          refine br_t (nI_le (a := 80) (by omega) (by omega)) (yr_rev hf hx hn _ (fun VA hVA => ?_))
          dsimp only
          have hr' : rx_t L K (rn_V (pl_r G L K) (pl_c G L K) (pl_w V) V (f0 * 20 + x) n) a_len a_kind VA := ⟨z3.1, fun y hy => ⟨(z3.2 y hy).1, by
            rcases Classical.em (rn_s (pl_r G L K) (pl_c G L K) (pl_w V) (f0 * 20 + x) y) with z | z
            · rw [rn_t z]; exact (hVA y hy).1 ((sel a_before hbf y hy).mpr z)
            · rw [rn_f z, (hVA y hy).2 (fun t => z ((sel a_before hbf y hy).mp t))]; exact (z3.2 y hy).2⟩⟩
          have hQ' : ry_Q G L K (rn_V (pl_r G L K) (pl_c G L K) (pl_w V) V (f0 * 20 + x) n) B (fun _ => True) (f_np, f_built, f_some, f_empty, f_wn, f_nt, a_pRule, a_pScope, a_pLen, a_sym, a_role, a_first, a_follow, a_kind, VA, a_len, a_word, a_reach, a_beyond, a_way, a_known, a_bad, a_part, a_scopes, a_inner, a_tRule, a_tFrom, a_tTo, a_before) := yr_qv hr' hv4
          -- the way back
          have back : ¬ rn_c (pl_r G L K) (pl_c G L K) (pl_w V) (pl_w (rn_V (pl_r G L K) (pl_c G L K) (pl_w V) V (f0 * 20 + x) n)) f0 → ∀ v5, ry_Q G L K (rn_V (pl_r G L K) (pl_c G L K) (pl_w V) V (f0 * 20 + x) n) B (fun _ => True) v5 → wpY_revalue (fun u => post 0 u) v5 (nI f0) (nI x) (nI (cn (fun x => pl_r G L K f0 x = 1) x)) (nI (V (f0 * 20 + x))) := by
            intro hno v5 hv5
            have hb5 := hv5.2.1
            obtain ⟨f_np, f_built, f_some, f_empty, f_wn, f_nt, a_pRule, a_pScope, a_pLen, a_sym, a_role, a_first, a_follow, a_kind, a_val, a_len, a_word, a_reach, a_beyond, a_way, a_known, a_bad, a_part, a_scopes, a_inner, a_tRule, a_tFrom, a_tTo, a_before⟩ := v5
            have hb5 : a_before = B := hb5
            obtain ⟨w1, w2, w3, w4⟩ := hv5.1
            refine yr_rev hf hx v16 _ (fun VB hVB => k0 hno _ ⟨w1, w2, ⟨w3.1, fun y hy => ⟨(w3.2 y hy).1, ?_⟩⟩, w4⟩)
            rcases Classical.em (rn_s (pl_r G L K) (pl_c G L K) (pl_w V) (f0 * 20 + x) y) with z | z
            · rw [rn_t z]; exact (hVB y hy).1 ((sel a_before hb5 y hy).mpr z)
            · rw [rn_f z, (hVB y hy).2 (fun t => z ((sel a_before hb5 y hy).mp t))]; exact (w3.2 y hy).2
          refine yl_dup hG hT' hQ' _ (fun hn => absurd ⟨f0, hf, rfl⟩ hn) (fun f1 _ e1 v5 hv5 => ?_)
          have ef : f1 = f0 := (nI_eq (by omega) (by omega)).mp e1.symm
          subst ef
          have c := fun x7 => yr_c156 (V := V) hG hT' hB post (nI f1) (nI (cn (fun x => pl_r G L K f1 x = 1) x)) (nI x) (nI (V (f1 * 20 + x))) (P0 := cn (lk_u (pl_r G L K) (pl_c G L K) (pl_w (rn_V (pl_r G L K) (pl_c G L K) (pl_w V) V (f1 * 20 + x) n)) f1) 20 = cn (lk_u (pl_r G L K) (pl_c G L K) (pl_w V) f1) 20) (fun q v6 hv6 => k1 ⟨q.2, q.1⟩ v6 hv6.1) (fun q v6 hv6 => back (fun y => q ⟨y.2, y.1⟩) v6 hv6) 80 0 x7 v5 (by omega) hv5
          obtain ⟨f_np, f_built, f_some, f_empty, f_wn, f_nt, a_pRule, a_pScope, a_pLen, a_sym, a_role, a_first, a_follow, a_kind, a_val, a_len, a_word, a_reach, a_beyond, a_way, a_known, a_bad, a_part, a_scopes, a_inner, a_tRule, a_tFrom, a_tTo, a_before⟩ := v5
          refine ek_if (nI_eq (by omega) (by omega)) (fun q => ⟨80 + 1, c 1 (Or.inl ⟨rfl, q, fun z h => by omega⟩)⟩) (fun q => ⟨80 + 1, c 0 (Or.inr ⟨rfl, fun y => q y.1⟩)⟩)
      · subst b; exact h' (nI_le (b := 15) (by omega) (by omega))
    · have hv1 := hv'.1
      obtain ⟨f_np, f_built, f_some, f_empty, f_wn, f_nt, a_pRule, a_pScope, a_pLen, a_sym, a_role, a_first, a_follow, a_kind, a_val, a_len, a_word, a_reach, a_beyond, a_way, a_known, a_bad, a_part, a_scopes, a_inner, a_tRule, a_tFrom, a_tTo, a_before⟩ := v'
      unfold wY_rename_26
      refine br_t (by decide) (h0 (fun ⟨f', x, _, a, b, c, _⟩ => ?_) _ hv1)
      have ef : f' = f := (nI_eq (by omega) (by omega)).mp b.symm
      subst ef
      exact hn x c
end
theorem i_vc_rename {k : Nat} {u : SX} {v : SY} (I : i_Rel k u v) (hk : k + 5 ≤ 2560) (v1 : Int32) (v2 : Int32) (v3 : Int32) : wpX_rename (fun r u' => wpY_rename (fun r' v' => r' = r ∧ i_Rel (k + 5) u' v') v v1 v2 v3) u v1 v2 v3 := by
  have I0 := I
  obtain ⟨b, G, L, K, V, hp, hX, hY⟩ := I
  have hX0 := hX
  cases b with
  | false =>
    obtain ⟨f_built, f_productionCount, f_depth, a_ruleOf, a_marked, a_symbolCount, a_symbols, a_roles, a_derives, a_first, a_follow, a_textLength, a_kindAt, a_valueAt, a_failsAt, a_expectedAt, a_roleAt, a_scopeAt, a_openProduction, a_openNext, a_openStart, a_targetBefore⟩ := u
    obtain ⟨x1, x2, x3, x4, x5⟩ := hX
    obtain ⟨g_np, g_built, g_some, g_empty, g_wn, g_nt, b_pRule, b_pScope, b_pLen, b_sym, b_role, b_first, b_follow, b_kind, b_val, b_len, b_word, b_reach, b_beyond, b_way, b_known, b_bad, b_part, b_scopes, b_inner, b_tRule, b_tFrom, b_tTo, b_before⟩ := v
    unfold wpX_rename
    dsimp only
    refine xl_place (r := 1) (xl_0 hp.2.1 x3 (x5 rfl)) (by omega) _ (fun _ => br_t rfl ?_) (fun f x hf e h => absurd h.2.1 (by show ¬ (0 : Nat) = 1; omega))
    unfold wpY_rename wY_rename_25 wY_rename_26
    dsimp only
    exact br_t hY.1 (br_t (by decide) ⟨rfl, I0⟩)
  | true =>
    have hG := hp.2.2.1 rfl
    obtain ⟨f_built, f_productionCount, f_depth, a_ruleOf, a_marked, a_symbolCount, a_symbols, a_roles, a_derives, a_first, a_follow, a_textLength, a_kindAt, a_valueAt, a_failsAt, a_expectedAt, a_roleAt, a_scopeAt, a_openProduction, a_openNext, a_openStart, a_targetBefore⟩ := u
    refine xm_rename hG hp.2.1 hX _ (fun hn => ym_rename hG hp.2.1 hY _ (fun _ v' hv' => ⟨rfl, true, G, L, K, V, hp, hX0, hv'⟩) (fun f x n a b c d e => absurd ⟨f, x, n, a, b, c, d, e⟩ hn)) (fun f x n a b c d e => ?_)
    have fin : ∀ (V' : Nat → Nat) (u' : SX) (v' : SY) , tx_ok L K V' → rx_R true G L K V' u' → ry_R true G L K V' v' → i_Rel (k + 5) u' v' := fun V' u' v' h1 h2 h3 => ⟨true, G, L, K, V', ⟨hp.1, h1, hp.2.2.1, fun h => nomatch h⟩, h2, h3⟩
    have v16 := (hp.2.1.2 (f * 20 + x) (by have := c.1; omega)).2
    have hT1 := rn_ok (R := pl_r G L K) (C := pl_c G L K) (W := pl_w V) (e := f * 20 + x) (n := n) hp.2.1 d
    have hT2 := rn_ok (R := pl_r G L K) (C := pl_c G L K) (W := pl_w V) (e := f * 20 + x) (n := V (f * 20 + x)) hT1 v16
    have un : ∀ f' x' n', f' < 4 → v1 = nI f' → lk_p (pl_r G L K) f' 1 v2 x' → n' < 16 → v3 = nI n' → f' = f ∧ x' = x ∧ n' = n := fun f' x' n' a' b' c' d' e' => by
      have e1 : f' = f := (nI_eq (by omega) (by omega)).mp (b'.symm.trans b)
      subst e1
      exact ⟨rfl, lk_pu c' c, (nI_eq (by omega) (by omega)).mp (e'.symm.trans e)⟩
    refine ⟨fun hc u' hu => ym_rename hG hp.2.1 hY _ (fun hn => absurd ⟨f, x, n, a, b, c, d, e⟩ hn) (fun f' x' n' a' b' c' d' e' => ?_), fun hc u' hu => ym_rename hG hp.2.1 hY _ (fun hn => absurd ⟨f, x, n, a, b, c, d, e⟩ hn) (fun f' x' n' a' b' c' d' e' => ?_)⟩
    · obtain ⟨q1, q2, q3⟩ := un f' x' n' a' b' c' d' e'
      subst q1 q2 q3
      exact ⟨fun _ v' hv' => ⟨rfl, fin _ _ _ hT1 hu hv'⟩, fun hn => absurd hc hn⟩
    · obtain ⟨q1, q2, q3⟩ := un f' x' n' a' b' c' d' e'
      subst q1 q2 q3
      exact ⟨fun hn => absurd hn hc, fun _ v' hv' => ⟨rfl, fin _ _ _ hT2 hu hv'⟩⟩
end
section
theorem zz_last : True := trivial
end
