/-! the class: how many bits a number has -/
theorem and256 {a A r R : Nat} (ha : a < 256) (hA : A < 256) : (a + 256 * r) &&& (A + 256 * R) = (a &&& A) + 256 * (r &&& R) := by
  have h1 : ((a + 256 * r) &&& (A + 256 * R)) % 2 ^ 8 = a &&& A := by
    rw [Nat.and_mod_two_pow, show (a + 256 * r) % 2 ^ 8 = a by omega, show (A + 256 * R) % 2 ^ 8 = A by omega]
  have h2 : ((a + 256 * r) &&& (A + 256 * R)) / 2 ^ 8 = r &&& R := by
    rw [Nat.and_div_two_pow, show (a + 256 * r) / 2 ^ 8 = r by omega, show (A + 256 * R) / 2 ^ 8 = R by omega]
  have := Nat.mod_add_div ((a + 256 * r) &&& (A + 256 * R)) (2 ^ 8)
  rw [h1, h2] at this
  exact this.symm
def bh (a : Nat) : Nat := a / 2 &&& 85
def b1 (a : Nat) : Nat := a - bh a
def b2 (a : Nat) : Nat := (b1 a &&& 51) + (b1 a / 4 &&& 51)
def b8 (a : Nat) : Nat := b2 a % 16 + b2 a / 16
theorem bq1 : ∀ a, a < 256 → ∀ e, e < 2 → (a / 2 + 128 * e) &&& 85 = bh a := by decide +kernel
theorem bq1c : ∀ a, a < 256 → (a / 2) &&& 21845 = bh a ∧ bh a ≤ a ∧ b1 a &&& 13107 = b1 a &&& 51 ∧ (b1 a / 4) &&& 13107 = b1 a / 4 &&& 51 ∧ b2 a % 16 ≤ 4 ∧ b2 a / 16 ≤ 4 ∧ a &&& 3855 = a % 16 := by decide +kernel
theorem bq2 : ∀ a, a < 256 → ∀ e, e < 4 → (b1 a / 4 + 64 * e) &&& 51 = b1 a / 4 &&& 51 := by decide +kernel
theorem b1_lt {a : Nat} (h : a < 256) : b1 a < 256 := by unfold b1; omega
theorem bx1 {a b c : Nat} (ha : a < 256) (hb : b < 256) (hc : c < 256) : (a + 256 * (b + 256 * c)) / 2 ^ 1 &&& 1431655765 = bh a + 256 * (bh b + 256 * bh c) := by
  rw [show (a + 256 * (b + 256 * c)) / 2 ^ 1 = (a / 2 + 128 * (b % 2)) + 256 * ((b / 2 + 128 * (c % 2)) + 256 * (c / 2)) by omega, show (1431655765 : Nat) = 85 + 256 * (85 + 256 * 21845) from rfl, and256 (by omega) (by decide), and256 (by omega) (by decide), bq1 a ha _ (by omega), bq1 b hb _ (by omega), (bq1c c hc).1]
theorem bx2 {a b c : Nat} (ha : a < 256) (hb : b < 256) (hc : c < 256) : ((b1 a + 256 * (b1 b + 256 * b1 c)) &&& 858993459) + ((b1 a + 256 * (b1 b + 256 * b1 c)) / 2 ^ 2 &&& 858993459) = b2 a + 256 * (b2 b + 256 * b2 c) := by
  have la := b1_lt ha
  have lb := b1_lt hb
  have lc := b1_lt hc
  rw [show (b1 a + 256 * (b1 b + 256 * b1 c)) / 2 ^ 2 = (b1 a / 4 + 64 * (b1 b % 4)) + 256 * ((b1 b / 4 + 64 * (b1 c % 4)) + 256 * (b1 c / 4)) by omega, show (858993459 : Nat) = 51 + 256 * (51 + 256 * 13107) from rfl, and256 (by omega) (by decide), and256 (by omega) (by decide), and256 (by omega) (by decide), and256 (by omega) (by decide), bq2 a ha _ (by omega), bq2 b hb _ (by omega), (bq1c c hc).2.2.1, (bq1c c hc).2.2.2.1]
  unfold b2
  omega
theorem nb8 (x r : Nat) (h1 : x % 16 ≤ 4) (h2 : x / 16 ≤ 4) : (x + x / 16 + 16 * r) % 16 = x % 16 + x / 16 := by omega
theorem bx3 {a b c : Nat} (ha : a < 256) (hb : b < 256) (hc : c < 256) : ((b2 a + 256 * (b2 b + 256 * b2 c)) + (b2 a + 256 * (b2 b + 256 * b2 c)) / 2 ^ 4) &&& 252645135 = b8 a + 256 * (b8 b + 256 * b8 c) := by
  obtain ⟨a1, a2⟩ := (bq1c a ha).2.2.2.2
  obtain ⟨c1, c2⟩ := (bq1c b hb).2.2.2.2
  obtain ⟨d1, d2⟩ := (bq1c c hc).2.2.2.2
  have e : (b2 a + 256 * (b2 b + 256 * b2 c)) + (b2 a + 256 * (b2 b + 256 * b2 c)) / 2 ^ 4 = (b2 a + b2 a / 16 + 16 * (b2 b % 16)) + 256 * ((b2 b + b2 b / 16 + 16 * (b2 c % 16)) + 256 * (b2 c + b2 c / 16)) := by omega
  have m15 : ∀ x, x &&& 15 = x % 16 := fun x => Nat.and_two_pow_sub_one_eq_mod x 4
  rw [e, show (252645135 : Nat) = 15 + 256 * (15 + 256 * 3855) from rfl, and256 (by omega) (by decide), and256 (by omega) (by decide), m15, m15, (bq1c _ (by omega : b2 c + b2 c / 16 < 256)).2.2.2.2.2.2]
  unfold b8
  rw [nb8 (b2 a) (b2 b % 16) a1 a2.1, nb8 (b2 b) (b2 c % 16) c1 c2.1]
  have := nb8 (b2 c) 0 d1 d2.1
  rw [Nat.mul_zero, Nat.add_zero] at this
  rw [this]
/-- the number of bits -/
def bcn (m : Nat) : Nat := b8 (m % 256) + b8 (m / 256 % 256) + b8 (m / 65536)
theorem b8_le {a : Nat} (h : a < 256) : b8 a ≤ 8 := by
  obtain ⟨a1, a2, _⟩ := (bq1c a h).2.2.2.2
  unfold b8
  omega
theorem bcn_le {m : Nat} (h : m < 2 ^ 24) : bcn m ≤ 24 := by
  have := b8_le (show m % 256 < 256 by omega)
  have := b8_le (show m / 256 % 256 < 256 by omega)
  have := b8_le (show m / 65536 < 256 by omega)
  unfold bcn
  omega
theorem nb9 {x y z : Nat} (hx : x ≤ 8) (hy : y ≤ 8) (hz : z ≤ 8) : (x + 256 * (y + 256 * z) + (x + 256 * (y + 256 * z)) / 2 ^ 8 + (x + 256 * (y + 256 * z) + (x + 256 * (y + 256 * z)) / 2 ^ 8) / 2 ^ 16) % 64 = x + y + z := by
  have h1 : (x + 256 * (y + 256 * z)) / 2 ^ 8 = y + 256 * z := by omega
  rw [h1]
  have h2 : (x + 256 * (y + 256 * z) + (y + 256 * z)) / 2 ^ 16 = z := by omega
  rw [h2]
  omega
theorem gq_bitCount {N0 : Nat} {K : Nat → Nat} {d m : Nat} {M : gm_H} {sz : Nat} {Q : Int32 → gm_H → Nat → Nat → Prop} (hm : m < 2 ^ 24) (q : Q (nI (bcn m)) M sz 0) : gJ6_bitCount_0f7a4 N0 K (d + 1) (nI m) M sz Q := by
  have ha : m % 256 < 256 := by omega
  have hb : m / 256 % 256 < 256 := by omega
  have hc : m / 65536 < 256 := by omega
  have em : m = m % 256 + 256 * (m / 256 % 256 + 256 * (m / 65536)) := by omega
  have la := (bq1c _ ha).2.1
  have lb := (bq1c _ hb).2.1
  have lc := (bq1c _ hc).2.1
  have ka := b8_le ha
  have kb := b8_le hb
  have kc := b8_le hc
  obtain ⟨g1, g2, _⟩ := (bq1c _ ha).2.2.2.2
  obtain ⟨g3, g4, _⟩ := (bq1c _ hb).2.2.2.2
  obtain ⟨g5, g6, _⟩ := (bq1c _ hc).2.2.2.2
  unfold bcn at q
  revert q em
  generalize m % 256 = a at *
  generalize m / 256 % 256 = b at *
  generalize m / 65536 = c at *
  intro q em
  subst em
  refine gC.pure (gJ6_bitCount_0f7a4.of (TJ6_bitCount_0f7a4_0 (Q := fun r => Q r M sz 0) ?_))
  have t1 : (((nI (a + 256 * (b + 256 * c))).toUInt32 >>> (((1 : Int32)).toUInt32 &&& Int32.toUInt32 31)).toInt32) = nI ((a + 256 * (b + 256 * c)) / 2 ^ 1) := nI_ush (by omega) (by decide)
  have e1 : nI (a + 256 * (b + 256 * c)) - ((((nI (a + 256 * (b + 256 * c))).toUInt32 >>> (((1 : Int32)).toUInt32 &&& Int32.toUInt32 31)).toInt32) &&& (1431655765 : Int32)) = nI (b1 a + 256 * (b1 b + 256 * b1 c)) := by
    rw [t1, show (1431655765 : Int32) = nI 1431655765 from rfl, nI_and, bx1 ha hb hc, nI_sub (by omega)]
    congr 1
    unfold b1
    omega
  rw [e1]
  have l1 := b1_lt ha
  have l2 := b1_lt hb
  have l3 := b1_lt hc
  have t2 : (((nI (b1 a + 256 * (b1 b + 256 * b1 c))).toUInt32 >>> (((2 : Int32)).toUInt32 &&& Int32.toUInt32 31)).toInt32) = nI ((b1 a + 256 * (b1 b + 256 * b1 c)) / 2 ^ 2) := nI_ush (by omega) (by decide)
  have e2 : (nI (b1 a + 256 * (b1 b + 256 * b1 c)) &&& (858993459 : Int32)) + ((((nI (b1 a + 256 * (b1 b + 256 * b1 c))).toUInt32 >>> (((2 : Int32)).toUInt32 &&& Int32.toUInt32 31)).toInt32) &&& (858993459 : Int32)) = nI (b2 a + 256 * (b2 b + 256 * b2 c)) := by
    rw [t2, show (858993459 : Int32) = nI 858993459 from rfl, nI_and, nI_and, nI_add, bx2 ha hb hc]
  rw [e2]
  have t3 : (((nI (b2 a + 256 * (b2 b + 256 * b2 c))).toUInt32 >>> (((4 : Int32)).toUInt32 &&& Int32.toUInt32 31)).toInt32) = nI ((b2 a + 256 * (b2 b + 256 * b2 c)) / 2 ^ 4) := nI_ush (by omega) (by decide)
  have e3 : (nI (b2 a + 256 * (b2 b + 256 * b2 c)) + (((nI (b2 a + 256 * (b2 b + 256 * b2 c))).toUInt32 >>> (((4 : Int32)).toUInt32 &&& Int32.toUInt32 31)).toInt32)) &&& (252645135 : Int32) = nI (b8 a + 256 * (b8 b + 256 * b8 c)) := by
    rw [t3, show (252645135 : Int32) = nI 252645135 from rfl, nI_add, nI_and, bx3 ha hb hc]
  rw [e3]
  have t4 : (((nI (b8 a + 256 * (b8 b + 256 * b8 c))).toUInt32 >>> (((8 : Int32)).toUInt32 &&& Int32.toUInt32 31)).toInt32) = nI ((b8 a + 256 * (b8 b + 256 * b8 c)) / 2 ^ 8) := nI_ush (by omega) (by decide)
  rw [t4, nI_add]
  have t5 : (((nI (b8 a + 256 * (b8 b + 256 * b8 c) + (b8 a + 256 * (b8 b + 256 * b8 c)) / 2 ^ 8)).toUInt32 >>> (((16 : Int32)).toUInt32 &&& Int32.toUInt32 31)).toInt32) = nI ((b8 a + 256 * (b8 b + 256 * b8 c) + (b8 a + 256 * (b8 b + 256 * b8 c)) / 2 ^ 8) / 2 ^ 16) := nI_ush (by omega) (by decide)
  have m63 : ∀ x, x &&& 63 = x % 64 := fun x => Nat.and_two_pow_sub_one_eq_mod x 6
  rw [t5, nI_add, show (63 : Int32) = nI 63 from rfl, nI_and, m63]
  rw [nb9 ka kb kc]
  exact q
theorem b8_nib : ∀ a, a < 256 → b8 a = b8 (a % 16) + b8 (a / 16) := by decide +kernel
theorem b4_mono : ∀ x, x < 16 → ∀ y, y < 16 → x &&& y = x → b8 x ≤ b8 y ∧ (x ≠ y → b8 x < b8 y) := by decide +kernel
theorem b8_mono {x y : Nat} (hx : x < 256) (hy : y < 256) (h : x &&& y = x) : b8 x ≤ b8 y ∧ (x ≠ y → b8 x < b8 y) := by
  have h1 : (x % 16) &&& (y % 16) = x % 16 := by
    have := congrArg (· % 2 ^ 4) h
    simp only [Nat.and_mod_two_pow] at this
    exact this
  have h2 : (x / 16) &&& (y / 16) = x / 16 := by
    have := congrArg (· / 2 ^ 4) h
    simp only [Nat.and_div_two_pow] at this
    exact this
  have a := b4_mono _ (by omega) _ (by omega) h1
  have b := b4_mono _ (by omega) _ (by omega) h2
  rw [b8_nib x hx, b8_nib y hy]
  refine ⟨by omega, fun z => ?_⟩
  by_cases e : x % 16 = y % 16
  · have := b.2 (by omega)
    omega
  · have := a.2 e
    omega
theorem bcn_mono {x y : Nat} (hx : x < 2 ^ 24) (hy : y < 2 ^ 24) (h : x &&& y = x) : bcn x ≤ bcn y ∧ (x ≠ y → bcn x < bcn y) := by
  have h1 : (x % 256) &&& (y % 256) = x % 256 := by
    have := congrArg (· % 2 ^ 8) h
    simp only [Nat.and_mod_two_pow] at this
    exact this
  have h2 : (x / 256) &&& (y / 256) = x / 256 := by
    have := congrArg (· / 2 ^ 8) h
    simp only [Nat.and_div_two_pow] at this
    exact this
  have h3 : (x / 256 % 256) &&& (y / 256 % 256) = x / 256 % 256 := by
    have := congrArg (· % 2 ^ 8) h2
    simp only [Nat.and_mod_two_pow] at this
    exact this
  have h4 : (x / 65536) &&& (y / 65536) = x / 65536 := by
    have := congrArg (· / 2 ^ 16) h
    simp only [Nat.and_div_two_pow] at this
    exact this
  have a := b8_mono (by omega) (by omega) h1
  have b := b8_mono (by omega) (by omega) h3
  have c := b8_mono (by omega) (by omega) h4
  unfold bcn
  refine ⟨by omega, fun z => ?_⟩
  by_cases e1 : x % 256 = y % 256
  · by_cases e2 : x / 256 % 256 = y / 256 % 256
    · have := c.2 (by omega)
      omega
    · have := b.2 e2
      omega
  · have := a.2 e1
    omega
