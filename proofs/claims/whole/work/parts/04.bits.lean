/-! bits, literals, indices -/
theorem ba_and0 {x y : Int32} : (x &&& y) = 0 ↔ ∀ t, t < 32 → ¬ (bt x t = true ∧ bt y t = true) := by
  constructor
  · intro h t ht ⟨a, b⟩
    have := congrArg (fun z => bt z t) h
    simp only [b_and, a, b, b_0] at this
    exact absurd this (by decide)
  · intro h
    apply b_ext
    intro i hi
    rw [b_and, b_0]
    have := h i hi
    cases hx : bt x i <;> cases hy : bt y i <;> simp_all
theorem ba_one : ∀ k, k < 32 → ∀ t, t < 32 → bt ((1 : Int32) <<< (nI k &&& 31)) t = decide (t = k) := by decide +kernel
theorem ba_two : ∀ k, k < 31 → ∀ t, t < 32 → bt ((2 : Int32) <<< (nI k &&& 31)) t = decide (t = k + 1) := by decide +kernel
theorem ba_1024 : ∀ t, t < 32 → bt 1024 t = decide (t = 10) := by decide +kernel
theorem ba_n1025 : ∀ t, t < 32 → bt (-1025) t = decide (t ≠ 10) := by decide +kernel
theorem ba_1 : ∀ t, t < 32 → bt 1 t = decide (t = 0) := by decide +kernel
theorem ba_t1 {x : Int32} {k : Nat} (hk : k < 32) : (x &&& ((1 : Int32) <<< (nI k &&& 31))) = 0 ↔ bt x k = false := by
  rw [ba_and0]
  constructor
  · intro h
    have := h k hk
    rw [ba_one k hk k hk] at this
    cases hx : bt x k <;> simp_all
  · intro h t ht ⟨a, b⟩
    rw [ba_one k hk t ht] at b
    have e : t = k := by simpa using b
    subst e
    rw [h] at a
    exact absurd a (by decide)
theorem ba_t1024 {x : Int32} : (x &&& 1024) = 0 ↔ bt x 10 = false := by
  have := ba_t1 (x := x) (k := 10) (by omega)
  rw [show (1 : Int32) <<< (nI 10 &&& 31) = 1024 from by decide +kernel] at this
  exact this
theorem ba_sh {x : Int32} {k : Nat} (hk : k < 32) : ((x >>> (nI k &&& 31)) &&& 1) = 0 ↔ bt x k = false := by
  rw [ba_and0]
  constructor
  · intro h
    have := h 0 (by omega)
    rw [b_sshr k hk x (by omega), ba_1 0 (by omega)] at this
    rw [if_pos (by omega)] at this
    cases hx : bt x k <;> simp_all
  · intro h t ht ⟨a, b⟩
    rw [ba_1 t ht] at b
    have e : t = 0 := by simpa using b
    subst e
    rw [b_sshr k hk x ht, if_pos (by omega), Nat.add_zero, h] at a
    exact absurd a (by decide)
theorem ba_b1 {x : Int32} : (x &&& 1) = 0 ↔ bt x 0 = false := by
  have := ba_t1 (x := x) (k := 0) (by omega)
  rw [show (1 : Int32) <<< (nI 0 &&& 31) = 1 from by decide +kernel] at this
  exact this
theorem ba_nf {b : Bool} : ¬ b = false ↔ b = true := by cases b <;> simp
theorem ba_x4 (a b : Nat) : nI a * 4 + nI b = nI (a * 4 + b) := by rw [show (4 : Int32) = nI 4 from rfl, pk_mul, nI_add]
theorem ba_4x (a b : Nat) : 4 * nI a + nI b = nI (a * 4 + b) := by rw [show (4 : Int32) = nI 4 from rfl, pk_mul, nI_add, Nat.mul_comm]
theorem ba_x20 (a b : Nat) : nI a * 20 + nI b = nI (a * 20 + b) := by rw [show (20 : Int32) = nI 20 from rfl, pk_mul, nI_add]
theorem ba_20x (a b : Nat) : 20 * nI a + nI b = nI (a * 20 + b) := by rw [show (20 : Int32) = nI 20 from rfl, pk_mul, nI_add, Nat.mul_comm]
theorem ba_x21 (a b : Nat) : nI a * 21 + nI b = nI (a * 21 + b) := by rw [show (21 : Int32) = nI 21 from rfl, pk_mul, nI_add]
theorem ba_22x (a b : Nat) : 22 * nI a + nI b = nI (a * 22 + b) := by rw [show (22 : Int32) = nI 22 from rfl, pk_mul, nI_add, Nat.mul_comm]
theorem ba_32x (a b : Nat) : 32 * nI a + nI b = nI (a * 32 + b) := by rw [show (32 : Int32) = nI 32 from rfl, pk_mul, nI_add, Nat.mul_comm]
theorem ba_20 (a : Nat) : nI a * 20 = nI (a * 20) := by rw [show (20 : Int32) = nI 20 from rfl, pk_mul]
theorem ba_p20 (a : Nat) : nI a + 20 = nI (a + 20) := by rw [show (20 : Int32) = nI 20 from rfl, nI_add]
theorem ba_m10 {a : Nat} (h : 10 ≤ a) : nI a - 10 = nI (a - 10) := by rw [show (10 : Int32) = nI 10 from rfl, pk_sub h]
theorem ba_m1 {a : Nat} (h : 1 ≤ a) : nI a - 1 = nI (a - 1) := by rw [show (1 : Int32) = nI 1 from rfl, pk_sub h]
theorem ba_s1 {a : Nat} (h : 1 ≤ a) : nI a + (-1) = nI (a - 1) := by
  obtain ⟨b, rfl⟩ : ∃ b, a = b + 1 := ⟨a - 1, by omega⟩
  rw [pk_m1, Nat.add_sub_cancel]
theorem ba_nb : ∀ k, k < 128 → (nI k).toInt8.toInt32 = nI k := by decide +kernel
theorem ba_vb {k : Nat} (h : k < 128) : vp_nar .byte (nI k) = nI k := by rw [vp_nar_byte, ba_nb k h]
theorem ba_ns : ∀ k, k < 700 → (nI k - 1).toInt16.toInt32 = nI k - 1 := by decide +kernel
theorem ba_vs {k : Nat} (h : k < 700) : vp_nar .short (nI k - 1) = nI k - 1 := by rw [vp_nar_short, ba_ns k h]
theorem ba_bool1 : vp_nar .boolean 1 = 1 := by rfl
theorem ba_bool0 : vp_nar .boolean 0 = 0 := by rfl
theorem ba_0 {x : Int32} {k : Nat} (h : x = nI k) (hk : k < 2 ^ 31) : x = 0 ↔ k = 0 := by
  rw [h]; exact nI_eq (b := 0) hk (by omega)
theorem ba_le {a b : Nat} (ha : a < 2 ^ 31) (hb : b < 2 ^ 31) : (nI a ≤ nI b) = (a ≤ b) := propext (nI_leI ha hb)
theorem ba_lt {a b : Nat} (ha : a < 2 ^ 31) (hb : b < 2 ^ 31) : (nI a < nI b) = (a < b) := propext (nI_ltI ha hb)
theorem ba_eq {a b : Nat} (ha : a < 2 ^ 31) (hb : b < 2 ^ 31) : (nI a = nI b) = (a = b) := propext (nI_eq ha hb)
theorem ba_up {f : Nat → Int32} {k j : Nat} {x : Int32} : upd f k x j = if j = k then x else f j := rfl
