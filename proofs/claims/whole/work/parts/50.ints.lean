/-! PURE PART. Ints as whole numbers: jI is a ring's map; comparisons in range -/
def jI (a : Int) : Int32 := Int32.ofInt a
theorem jI_toInt {a : Int} (h1 : -2147483648 ≤ a) (h2 : a < 2147483648) : (jI a).toInt = a := by
  unfold jI
  rw [Int32.toInt_ofInt]
  exact Int.bmod_eq_of_le (by simpa using h1) (by simpa using h2)
theorem jI_add (a b : Int) : jI a + jI b = jI (a + b) := (Int32.ofInt_add a b).symm
theorem jI_sub (a b : Int) : jI a - jI b = jI (a - b) := (Int32.ofInt_sub a b).symm
theorem jI_mul (a b : Int) : jI a * jI b = jI (a * b) := (Int32.ofInt_mul a b).symm
theorem jI_lt {a b : Int} (h1 : -2147483648 ≤ a) (h2 : a < 2147483648) (h3 : -2147483648 ≤ b) (h4 : b < 2147483648) : (jI a < jI b) = (a < b) := by
  rw [Int32.lt_iff_toInt_lt, jI_toInt h1 h2, jI_toInt h3 h4]
theorem jI_le {a b : Int} (h1 : -2147483648 ≤ a) (h2 : a < 2147483648) (h3 : -2147483648 ≤ b) (h4 : b < 2147483648) : (jI a ≤ jI b) = (a ≤ b) := by
  rw [Int32.le_iff_toInt_le, jI_toInt h1 h2, jI_toInt h3 h4]
theorem jI_eq {a b : Int} (h1 : -2147483648 ≤ a) (h2 : a < 2147483648) (h3 : -2147483648 ≤ b) (h4 : b < 2147483648) : (jI a = jI b) = (a = b) := by
  rw [← Int32.toInt_inj, jI_toInt h1 h2, jI_toInt h3 h4]
theorem jI_inb {a : Int} {n : Nat} (h1 : -2147483648 ≤ a) (h2 : a < 2147483648) : inb (jI a) n = (0 ≤ a ∧ a < n) := by
  unfold inb
  rw [jI_toInt h1 h2]
theorem jI_cl {a : Int} (h1 : -2147483648 ≤ a) (h2 : a < 2147483648) : (jI a).toNatClampNeg = a.toNat := by
  show (jI a).toInt.toNat = a.toNat
  rw [jI_toInt h1 h2]
theorem jI_ofNat (n : Nat) : Int32.ofNat n = jI (n : Int) := rfl
theorem jI_neg (a : Int) : -jI a = jI (-a) := (Int32.ofInt_neg a).symm
theorem j_0 : (0 : Int32) = jI 0 := rfl
theorem j_1 : (1 : Int32) = jI 1 := rfl
theorem j_2 : (2 : Int32) = jI 2 := rfl
theorem j_3 : (3 : Int32) = jI 3 := rfl
theorem j_4 : (4 : Int32) = jI 4 := rfl
theorem j_5 : (5 : Int32) = jI 5 := rfl
theorem j_6 : (6 : Int32) = jI 6 := rfl
theorem j_7 : (7 : Int32) = jI 7 := rfl
theorem j_8 : (8 : Int32) = jI 8 := rfl
theorem j_10 : (10 : Int32) = jI 10 := rfl
theorem j_16 : (16 : Int32) = jI 16 := rfl
theorem j_31 : (31 : Int32) = jI 31 := rfl
theorem j_32 : (32 : Int32) = jI 32 := rfl
theorem j_39 : (39 : Int32) = jI 39 := rfl
theorem j_60 : (60 : Int32) = jI 60 := rfl
theorem j_80 : (80 : Int32) = jI 80 := rfl
theorem j_126 : (126 : Int32) = jI 126 := rfl
theorem j_180 : (180 : Int32) = jI 180 := rfl
theorem j_539 : (539 : Int32) = jI 539 := rfl
theorem j_540 : (540 : Int32) = jI 540 := rfl
theorem j_900 : (900 : Int32) = jI 900 := rfl
theorem j_999 : (999 : Int32) = jI 999 := rfl
theorem j_1000 : (1000 : Int32) = jI 1000 := rfl
theorem j_2000 : (2000 : Int32) = jI 2000 := rfl
theorem j_m1 : (-1 : Int32) = jI (-1) := rfl
theorem lT_eq {α β : Type} (x : α) (f : α → Option β) : lT x f = f x := rfl
theorem b1_some {α β : Type} (a : α) (f : α → Option β) : b1 (some a) f = f a := rfl
theorem b2_some {α β γ : Type} (a : α) (b : β) (f : α → β → Option γ) : b2 (some (a, b)) f = f a b := rfl
theorem b3_some {α β γ δ : Type} (a : α) (b : β) (c : γ) (f : α → β → γ → Option δ) : b3 (some (a, b, c)) f = f a b c := rfl
theorem oV_sV (o : Ob) (k j : Nat) (x : Int32) : oV (sV o k x) j = if j = k then x else oV o j := rfl
theorem oV_sR (o : Ob) (k j : Nat) (f : Nat → Int32) : oV (sR o k f) j = oV o j := rfl
theorem oV_sA (o : Ob) (k i j : Nat) (x : Int32) : oV (sA o k i x) j = oV o j := rfl
theorem oA_sV (o : Ob) (k j : Nat) (x : Int32) : oA (sV o k x) j = oA o j := rfl
theorem oA_sRj (o : Ob) (k j : Nat) (f : Nat → Int32) : oA (sR o k f) j = if j = k then f else oA o j := rfl
theorem oA_sA (o : Ob) (k i j a : Nat) (x : Int32) : oA (sA o k i x) j a = if j = k ∧ a = i then x else oA o j a := by
  unfold sA
  rw [oA_sRj]
  by_cases h : j = k
  · subst h
    simp [upd]
  · simp [h]
theorem jI_div3 {a : Int} (h : 0 ≤ a) (h2 : a < 2147483648) : jI a / jI 3 = jI (a / 3) := by
  obtain ⟨n, rfl⟩ := Int.eq_ofNat_of_zero_le h
  have := pk_div (a := n) (d := 3) (by omega) (by omega) (by omega)
  exact this
theorem jI_rem3 {a : Int} (h : 0 ≤ a) (h2 : a < 2147483648) : jI a - jI a / jI 3 * jI 3 = jI (a % 3) := by
  obtain ⟨n, rfl⟩ := Int.eq_ofNat_of_zero_le h
  have := pk_rem (a := n) (d := 3) (by omega) (by omega) (by omega)
  exact this
