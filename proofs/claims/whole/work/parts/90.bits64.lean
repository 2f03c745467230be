/-! longs as sets of bits; how many bits -/
theorem i64_nb (a : Nat) : (i64 (a : Int)).toBitVec = BitVec.ofNat 64 a := by
  show BitVec.ofInt 64 (a : Int) = _
  exact BitVec.ofInt_natCast 64 a
theorem bv_nat64 {x : Int64} {k : Nat} (h : x.toBitVec = BitVec.ofNat 64 k) (hk : k < 9223372036854775808) : x.toInt = (k : Int) := by
  show x.toBitVec.toInt = _
  rw [h, BitVec.toInt_eq_toNat_bmod, BitVec.toNat_ofNat, Nat.mod_eq_of_lt (by omega)]
  exact w64_id (x := (k : Int)) ⟨by omega, by omega⟩
theorem land_nat {a b : Nat} (ha : a < 9223372036854775808) : land (a : Int) (b : Int) = ((a &&& b : Nat) : Int) := by
  unfold land
  refine bv_nat64 ?_ (Nat.lt_of_le_of_lt Nat.and_le_left ha)
  rw [Int64.toBitVec_and, i64_nb, i64_nb]
  apply BitVec.eq_of_getLsbD_eq
  intro i hi
  simp [hi]
theorem lor_nat {a b : Nat} (ha : a < 4611686018427387904) (hb : b < 4611686018427387904) : lor (a : Int) (b : Int) = ((a ||| b : Nat) : Int) := by
  unfold lor
  have h : a ||| b < 2 ^ 62 := Nat.or_lt_two_pow (by omega) (by omega)
  refine bv_nat64 ?_ (by omega)
  rw [Int64.toBitVec_or, i64_nb, i64_nb]
  apply BitVec.eq_of_getLsbD_eq
  intro i hi
  simp [hi]
theorem lshl_1 : ∀ k : Nat, k < 62 → lshl 1 (k : Int) = ((2 ^ k : Nat) : Int) := by decide +kernel
theorem lsh_am : ∀ n : Nat, n < 64 → ((((i32 (n : Int)).toInt64.toUInt64 &&& Int64.toUInt64 63).toBitVec) % (64 : BitVec 64)).toNat = n := by decide +kernel
theorem lushr_nat {a k : Nat} (ha : a < 9223372036854775808) (hk : k < 64) : lushr (a : Int) (k : Int) = ((a >>> k : Nat) : Int) := by
  unfold lushr
  have hlt : a >>> k < 9223372036854775808 := Nat.lt_of_le_of_lt (Nat.shiftRight_le a k) ha
  refine bv_nat64 ?_ hlt
  show ((i64 (a : Int)).toUInt64 >>> ((i32 (k : Int)).toInt64.toUInt64 &&& Int64.toUInt64 63)).toBitVec = _
  rw [UInt64.toBitVec_shiftRight]
  show (i64 (a : Int)).toBitVec >>> ((((i32 (k : Int)).toInt64.toUInt64 &&& Int64.toUInt64 63).toBitVec) % (64 : BitVec 64)) = _
  rw [BitVec.ushiftRight_eq', lsh_am k hk, i64_nb]
  apply BitVec.eq_of_toNat_eq
  rw [BitVec.toNat_ushiftRight, BitVec.toNat_ofNat, BitVec.toNat_ofNat, Nat.mod_eq_of_lt (by omega), Nat.mod_eq_of_lt (by omega)]
def bts (p : Nat → Bool) (n : Nat) : Int := ((bitsN p n : Nat) : Int)
theorem bitsN_60 (p : Nat → Bool) {n : Nat} (hn : n ≤ 60) : bitsN p n < 1152921504606846976 := by
  have h1 := bitsN_lt p n
  have h2 : 2 ^ n ≤ 2 ^ 60 := Nat.pow_le_pow_right (by omega) hn
  omega
theorem bts_congr {p q : Nat → Bool} {n : Nat} (h : ∀ i, i < n → p i = q i) : bts p n = bts q n := by
  unfold bts
  rw [bitsN_eq (a := bitsN p n) (b := bitsN q n) fun i => ?_]
  rw [bitsN_tb, bitsN_tb]
  by_cases c : i < n
  · rw [h i c]
  · rw [decide_eq_false c, Bool.false_and, Bool.false_and]
theorem bts_none (n : Nat) : bts (fun _ => false) n = 0 := by
  unfold bts
  have : bitsN (fun _ => false) n = 0 := bitsN_eq fun i => by rw [bitsN_tb, Bool.and_false, Nat.zero_testBit]
  rw [this]
  rfl
theorem lor_bts (p q : Nat → Bool) {n : Nat} (hn : n ≤ 60) : lor (bts p n) (bts q n) = bts (fun i => p i || q i) n := by
  unfold bts
  have h1 := bitsN_60 p hn
  have h2 := bitsN_60 q hn
  rw [lor_nat (by omega) (by omega)]
  congr 1
  refine bitsN_eq fun i => ?_
  rw [Nat.testBit_or, bitsN_tb, bitsN_tb, bitsN_tb]
  cases decide (i < n) <;> simp
theorem lone_bts {n k : Nat} (hn : n ≤ 60) (hk : k < n) : lshl 1 (k : Int) = bts (fun i => i == k) n := by
  unfold bts
  rw [lshl_1 k (by omega)]
  congr 1
  refine bitsN_eq fun i => ?_
  rw [Nat.testBit_two_pow, bitsN_tb]
  by_cases e : k = i
  · subst e; simp [hk]
  · rw [decide_eq_false e]
    have : (i == k) = false := by rw [beq_eq_false_iff_ne]; omega
    rw [this, Bool.and_false]
theorem lor_bit (p : Nat → Bool) {n k : Nat} (hn : n ≤ 60) (hk : k < n) : lor (bts p n) (lshl 1 (k : Int)) = bts (fun i => p i || i == k) n := by
  rw [lone_bts hn hk, lor_bts _ _ hn]
theorem lbit_at (p : Nat → Bool) {n l : Nat} (hn : n ≤ 60) (hl : l < 60) : land (lushr (bts p n) (l : Int)) 1 = if l < n ∧ p l = true then 1 else 0 := by
  unfold bts
  have h1 := bitsN_60 p hn
  rw [lushr_nat (by omega) (by omega)]
  have h2 : bitsN p n >>> l < 9223372036854775808 := Nat.lt_of_le_of_lt (Nat.shiftRight_le _ l) (by omega)
  have e : land ((bitsN p n >>> l : Nat) : Int) 1 = (((bitsN p n >>> l) &&& 1 : Nat) : Int) := land_nat (b := 1) h2
  rw [e]
  have t : (bitsN p n >>> l) &&& 1 = ((bitsN p n).testBit l).toNat := by
    rw [Nat.testBit, Nat.and_comm]
    have := Nat.and_one_is_mod (bitsN p n >>> l)
    rw [Nat.and_comm] at this
    rw [this]
    rcases Nat.mod_two_eq_zero_or_one (bitsN p n >>> l) with z | z <;> rw [z] <;> rfl
  rw [t, bitsN_tb]
  by_cases c : l < n
  · rw [decide_eq_true c, Bool.true_and]
    cases h : p l
    · rw [if_neg (by simp)]; rfl
    · rw [if_pos ⟨c, rfl⟩]; rfl
  · rw [decide_eq_false c, Bool.false_and, if_neg (fun z => c z.1)]
    rfl
/-! how many bits, by bytes -/
theorem and_by {a m A B : Nat} (ha : a < 256) (hm : m < 256) : (a + 256 * A) &&& (m + 256 * B) = (a &&& m) + 256 * (A &&& B) := by
  have h1 := Nat.and_mod_two_pow (a := a + 256 * A) (b := m + 256 * B) (n := 8)
  have h2 := Nat.and_div_two_pow (a := a + 256 * A) (b := m + 256 * B) (n := 8)
  have e1 : (a + 256 * A) % 2 ^ 8 = a := by omega
  have e2 : (m + 256 * B) % 2 ^ 8 = m := by omega
  have e3 : (a + 256 * A) / 2 ^ 8 = A := by omega
  have e4 : (m + 256 * B) / 2 ^ 8 = B := by omega
  rw [e1, e2] at h1
  rw [e3, e4] at h2
  omega
def by6 (a b c d e f : Nat) : Nat := a + 256 * (b + 256 * (c + 256 * (d + 256 * (e + 256 * f))))
theorem and_6 {a b c d e f m h : Nat} (ha : a < 256) (hb : b < 256) (hc : c < 256) (hd : d < 256) (he : e < 256) (hf : f < 256) (hm : m < 256) : by6 a b c d e f &&& (m + 256 * (m + 256 * (m + 256 * (m + 256 * (m + 256 * (m + 256 * h)))))) = by6 (a &&& m) (b &&& m) (c &&& m) (d &&& m) (e &&& m) (f &&& m) := by
  unfold by6
  have last : f &&& (m + 256 * h) = f &&& m := by
    have := and_by (A := 0) (B := h) hf hm
    rw [Nat.mul_zero, Nat.add_zero, Nat.zero_and, Nat.mul_zero, Nat.add_zero] at this
    exact this
  rw [and_by ha hm, and_by hb hm, and_by hc hm, and_by hd hm, and_by he hm, last]
def pop8 (b : Nat) : Nat := cntN (fun i => b.testBit i) 8
theorem st_1 : ∀ b, b < 256 → ∀ t, t < 2 → ((b / 2 + 128 * t) &&& 85) = ((b / 2) &&& 85) ∧ ((b / 2) &&& 85) ≤ b := by decide +kernel
def p1 (b : Nat) : Nat := b - ((b / 2) &&& 85)
theorem st_2 : ∀ b, b < 256 → ∀ t, t < 4 → ((b / 4 + 64 * t) &&& 51) = ((b / 4) &&& 51) := by decide +kernel
def p2 (b : Nat) : Nat := (p1 b &&& 51) + ((p1 b / 4) &&& 51)
theorem st_2b : ∀ b, b < 256 → p1 b < 256 ∧ p2 b < 256 ∧ p2 b % 16 ≤ 4 ∧ p2 b + p2 b / 16 + 64 < 256 := by decide +kernel
theorem st_3 : ∀ b, b < 256 → ∀ t, t < 5 → ((p2 b + (p2 b / 16 + 16 * t)) &&& 15) = pop8 b := by decide +kernel
theorem pop8_le (b : Nat) : pop8 b ≤ 8 := cntN_le _ _
def pcF (v : Nat) : Nat :=
  let v1 := v - ((v >>> 1) &&& 6148914691236517205)
  let v2 := (v1 &&& 3689348814741910323) + ((v1 >>> 2) &&& 3689348814741910323)
  let v3 := (v2 + (v2 >>> 4)) &&& 1085102592571150095
  let v4 := v3 + (v3 >>> 8)
  let v5 := v4 + (v4 >>> 16)
  let v6 := v5 + (v5 >>> 32)
  v6 &&& 127
theorem m5_eq : (6148914691236517205 : Nat) = 85 + 256 * (85 + 256 * (85 + 256 * (85 + 256 * (85 + 256 * (85 + 256 * 21845))))) := by decide
theorem m3_eq : (3689348814741910323 : Nat) = 51 + 256 * (51 + 256 * (51 + 256 * (51 + 256 * (51 + 256 * (51 + 256 * 13107))))) := by decide
theorem m0_eq : (1085102592571150095 : Nat) = 15 + 256 * (15 + 256 * (15 + 256 * (15 + 256 * (15 + 256 * (15 + 256 * 3855))))) := by decide
theorem v1_6 {a b c d e f : Nat} (ha : a < 256) (hb : b < 256) (hc : c < 256) (hd : d < 256) (he : e < 256) (hf : f < 256) : by6 a b c d e f - ((by6 a b c d e f >>> 1) &&& 6148914691236517205) = by6 (p1 a) (p1 b) (p1 c) (p1 d) (p1 e) (p1 f) := by
  have s : by6 a b c d e f >>> 1 = by6 (a / 2 + 128 * (b % 2)) (b / 2 + 128 * (c % 2)) (c / 2 + 128 * (d % 2)) (d / 2 + 128 * (e % 2)) (e / 2 + 128 * (f % 2)) (f / 2 + 128 * (0 % 2)) := by
    rw [Nat.shiftRight_eq_div_pow]
    unfold by6
    omega
  rw [s, m5_eq, and_6 (by omega) (by omega) (by omega) (by omega) (by omega) (by omega) (by omega), (st_1 a ha (b % 2) (by omega)).1, (st_1 b hb (c % 2) (by omega)).1, (st_1 c hc (d % 2) (by omega)).1, (st_1 d hd (e % 2) (by omega)).1, (st_1 e he (f % 2) (by omega)).1, (st_1 f hf (0 % 2) (by omega)).1]
  have a1 := (st_1 a ha 0 (by omega)).2
  have b1 := (st_1 b hb 0 (by omega)).2
  have c1 := (st_1 c hc 0 (by omega)).2
  have d1 := (st_1 d hd 0 (by omega)).2
  have e1 := (st_1 e he 0 (by omega)).2
  have f1 := (st_1 f hf 0 (by omega)).2
  unfold by6 p1
  omega
theorem v2_6 {a b c d e f : Nat} (ha : a < 256) (hb : b < 256) (hc : c < 256) (hd : d < 256) (he : e < 256) (hf : f < 256) : (by6 (p1 a) (p1 b) (p1 c) (p1 d) (p1 e) (p1 f) &&& 3689348814741910323) + ((by6 (p1 a) (p1 b) (p1 c) (p1 d) (p1 e) (p1 f) >>> 2) &&& 3689348814741910323) = by6 (p2 a) (p2 b) (p2 c) (p2 d) (p2 e) (p2 f) := by
  have a1 := (st_2b a ha).1
  have b1 := (st_2b b hb).1
  have c1 := (st_2b c hc).1
  have d1 := (st_2b d hd).1
  have e1 := (st_2b e he).1
  have f1 := (st_2b f hf).1
  have s : by6 (p1 a) (p1 b) (p1 c) (p1 d) (p1 e) (p1 f) >>> 2 = by6 (p1 a / 4 + 64 * (p1 b % 4)) (p1 b / 4 + 64 * (p1 c % 4)) (p1 c / 4 + 64 * (p1 d % 4)) (p1 d / 4 + 64 * (p1 e % 4)) (p1 e / 4 + 64 * (p1 f % 4)) (p1 f / 4 + 64 * (0 % 4)) := by
    rw [Nat.shiftRight_eq_div_pow]
    unfold by6
    omega
  rw [s, m3_eq, and_6 a1 b1 c1 d1 e1 f1 (by omega), and_6 (by omega) (by omega) (by omega) (by omega) (by omega) (by omega) (by omega), st_2 _ a1 (p1 b % 4) (by omega), st_2 _ b1 (p1 c % 4) (by omega), st_2 _ c1 (p1 d % 4) (by omega), st_2 _ d1 (p1 e % 4) (by omega), st_2 _ e1 (p1 f % 4) (by omega), st_2 _ f1 (0 % 4) (by omega)]
  unfold by6 p2
  omega
theorem v3_6 {a b c d e f : Nat} (ha : a < 256) (hb : b < 256) (hc : c < 256) (hd : d < 256) (he : e < 256) (hf : f < 256) : (by6 (p2 a) (p2 b) (p2 c) (p2 d) (p2 e) (p2 f) + (by6 (p2 a) (p2 b) (p2 c) (p2 d) (p2 e) (p2 f) >>> 4)) &&& 1085102592571150095 = by6 (pop8 a) (pop8 b) (pop8 c) (pop8 d) (pop8 e) (pop8 f) := by
  obtain ⟨-, a1, a2, a3⟩ := st_2b a ha
  obtain ⟨-, b1, b2, b3⟩ := st_2b b hb
  obtain ⟨-, c1, c2, c3⟩ := st_2b c hc
  obtain ⟨-, d1, d2, d3⟩ := st_2b d hd
  obtain ⟨-, e1, e2, e3⟩ := st_2b e he
  obtain ⟨-, f1, f2, f3⟩ := st_2b f hf
  have s : by6 (p2 a) (p2 b) (p2 c) (p2 d) (p2 e) (p2 f) + (by6 (p2 a) (p2 b) (p2 c) (p2 d) (p2 e) (p2 f) >>> 4) = by6 (p2 a + (p2 a / 16 + 16 * (p2 b % 16))) (p2 b + (p2 b / 16 + 16 * (p2 c % 16))) (p2 c + (p2 c / 16 + 16 * (p2 d % 16))) (p2 d + (p2 d / 16 + 16 * (p2 e % 16))) (p2 e + (p2 e / 16 + 16 * (p2 f % 16))) (p2 f + (p2 f / 16 + 16 * (0 % 16))) := by
    rw [Nat.shiftRight_eq_div_pow]
    unfold by6
    omega
  rw [s, m0_eq, and_6 (by omega) (by omega) (by omega) (by omega) (by omega) (by omega) (by omega), st_3 a ha (p2 b % 16) (by omega), st_3 b hb (p2 c % 16) (by omega), st_3 c hc (p2 d % 16) (by omega), st_3 d hd (p2 e % 16) (by omega), st_3 e he (p2 f % 16) (by omega), st_3 f hf (0 % 16) (by omega)]
theorem pcF_6 {a b c d e f : Nat} (ha : a < 256) (hb : b < 256) (hc : c < 256) (hd : d < 256) (he : e < 256) (hf : f < 256) : pcF (by6 a b c d e f) = pop8 a + pop8 b + pop8 c + pop8 d + pop8 e + pop8 f := by
  unfold pcF
  rw [v1_6 ha hb hc hd he hf]
  dsimp only
  rw [v2_6 ha hb hc hd he hf, v3_6 ha hb hc hd he hf]
  have a1 := pop8_le a
  have b1 := pop8_le b
  have c1 := pop8_le c
  have d1 := pop8_le d
  have e1 := pop8_le e
  have f1 := pop8_le f
  generalize pop8 a = A at *
  generalize pop8 b = B at *
  generalize pop8 c = C at *
  generalize pop8 d = D at *
  generalize pop8 e = E at *
  generalize pop8 f = F at *
  have m127 : ∀ x : Nat, x &&& 127 = x % 128 := fun x => Nat.and_two_pow_sub_one_eq_mod x 7
  rw [m127]
  have s1 : by6 A B C D E F >>> 8 = by6 B C D E F 0 := by
    rw [Nat.shiftRight_eq_div_pow]; unfold by6; omega
  have s2 : by6 A B C D E F + by6 B C D E F 0 = by6 (A + B) (B + C) (C + D) (D + E) (E + F) F := by unfold by6; omega
  have s3 : by6 (A + B) (B + C) (C + D) (D + E) (E + F) F >>> 16 = by6 (C + D) (D + E) (E + F) F 0 0 := by
    rw [Nat.shiftRight_eq_div_pow]; unfold by6; omega
  have s4 : by6 (A + B) (B + C) (C + D) (D + E) (E + F) F + by6 (C + D) (D + E) (E + F) F 0 0 = by6 (A + B + C + D) (B + C + D + E) (C + D + E + F) (D + E + F) (E + F) F := by unfold by6; omega
  have s5 : by6 (A + B + C + D) (B + C + D + E) (C + D + E + F) (D + E + F) (E + F) F >>> 32 = by6 (E + F) F 0 0 0 0 := by
    rw [Nat.shiftRight_eq_div_pow]; unfold by6; omega
  rw [s1, s2, s3, s4, s5]
  unfold by6
  omega
theorem pop_by (v : Nat) (hv : v < 281474976710656) : pcF v = cntN (fun i => v.testBit i) 48 := by
  obtain ⟨a, ea⟩ : ∃ a, a = v % 256 := ⟨_, rfl⟩
  obtain ⟨b, eb⟩ : ∃ b, b = v / 256 % 256 := ⟨_, rfl⟩
  obtain ⟨c, ec⟩ : ∃ c, c = v / 65536 % 256 := ⟨_, rfl⟩
  obtain ⟨d, ed⟩ : ∃ d, d = v / 16777216 % 256 := ⟨_, rfl⟩
  obtain ⟨e, ee⟩ : ∃ e, e = v / 4294967296 % 256 := ⟨_, rfl⟩
  obtain ⟨f, ef⟩ : ∃ f, f = v / 1099511627776 % 256 := ⟨_, rfl⟩
  have ev : v = by6 a b c d e f := by unfold by6; omega
  have tb : ∀ (k i : Nat), i < 8 → (v / 2 ^ (8 * k) % 256).testBit i = v.testBit (8 * k + i) := by
    intro k i hi
    have h1 : (256 : Nat) = 2 ^ 8 := rfl
    rw [h1, Nat.testBit_mod_two_pow, decide_eq_true hi, Bool.true_and, Nat.testBit_div_two_pow, Nat.add_comm]
  have ps : ∀ k, pop8 (v / 2 ^ (8 * k) % 256) = sm (fun i => ind (v.testBit (8 * k + i))) 8 := by
    intro k
    unfold pop8
    rw [cnt_sm]
    exact sm_congr fun i hi => by rw [tb k i hi]
  have P := pcF_6 (a := a) (b := b) (c := c) (d := d) (e := e) (f := f) (by omega) (by omega) (by omega) (by omega) (by omega) (by omega)
  rw [← ev] at P
  rw [P, ea, eb, ec, ed, ee, ef]
  have q0 := ps 0
  have q1 := ps 1
  have q2 := ps 2
  have q3 := ps 3
  have q4 := ps 4
  have q5 := ps 5
  rw [show (2 : Nat) ^ (8 * 0) = 1 from rfl, Nat.div_one] at q0
  rw [show (2 : Nat) ^ (8 * 1) = 256 from rfl] at q1
  rw [show (2 : Nat) ^ (8 * 2) = 65536 from rfl] at q2
  rw [show (2 : Nat) ^ (8 * 3) = 16777216 from rfl] at q3
  rw [show (2 : Nat) ^ (8 * 4) = 4294967296 from rfl] at q4
  rw [show (2 : Nat) ^ (8 * 5) = 1099511627776 from rfl] at q5
  rw [q0, q1, q2, q3, q4, q5, cnt_sm]
  have sp : ∀ (g : Nat → Nat), sm g 48 = sm (fun i => g (8 * 0 + i)) 8 + sm (fun i => g (8 * 1 + i)) 8 + sm (fun i => g (8 * 2 + i)) 8 + sm (fun i => g (8 * 3 + i)) 8 + sm (fun i => g (8 * 4 + i)) 8 + sm (fun i => g (8 * 5 + i)) 8 := by
    intro g
    simp only [sm]
    simp only [Nat.mul_zero, Nat.zero_add, Nat.reduceMul, Nat.reduceAdd, Nat.add_zero]
    omega
  rw [sp (fun i => ind (v.testBit i))]
theorem s_bitCount {p : Nat → Bool} {n : Nat} {post : Int → Prop} (hn : n ≤ 48) (h : post (cntN p n : Int)) : w_J13_bitCount_95d88 (bts p n) post := by
  have hv := bitsN_lt p n
  have h2 : 2 ^ n ≤ 2 ^ 48 := Nat.pow_le_pow_right (by omega) hn
  have pb := pop_by (bitsN p n) (by omega)
  have ct : cntN (fun i => (bitsN p n).testBit i) 48 = cntN p n := by
    rw [show (48 : Nat) = n + (48 - n) by omega, cnt_sm, sm_split, sm_0 (f := fun i => ind ((bitsN p n).testBit (n + i))) (fun i _ => ind_f (by rw [bitsN_tb, decide_eq_false (by omega)]; simp)), cnt_sm]
    rw [Nat.add_zero]
    exact sm_congr fun i hi => by rw [bitsN_tb, decide_eq_true hi, Bool.true_and]
  rw [ct] at pb
  unfold bts
  generalize bitsN p n = v at *
  have hv48 : v < 281474976710656 := by omega
  unfold w_J13_bitCount_95d88
  unfold pcF at pb
  dsimp only at pb
  have k1 : lushr (v : Int) 1 = ((v >>> 1 : Nat) : Int) := lushr_nat (k := 1) (by omega) (by omega)
  have l1 : v >>> 1 ≤ v := Nat.shiftRight_le v 1
  have k2 : land ((v >>> 1 : Nat) : Int) 6148914691236517205 = (((v >>> 1) &&& 6148914691236517205 : Nat) : Int) := land_nat (b := 6148914691236517205) (by omega)
  have l2 : (v >>> 1) &&& 6148914691236517205 ≤ v >>> 1 := Nat.and_le_left
  rw [k1, k2, show (v : Int) - (((v >>> 1) &&& 6148914691236517205 : Nat) : Int) = ((v - ((v >>> 1) &&& 6148914691236517205) : Nat) : Int) by omega]
  generalize ex1 : v - ((v >>> 1) &&& 6148914691236517205) = x1 at *
  rw [w64_id (show ok64 (x1 : Int) from ⟨by omega, by omega⟩)]
  rintro _ rfl
  have k3 : lushr (x1 : Int) 2 = ((x1 >>> 2 : Nat) : Int) := lushr_nat (k := 2) (by omega) (by omega)
  have l3 : x1 >>> 2 ≤ x1 := Nat.shiftRight_le x1 2
  have k4 : land (x1 : Int) 3689348814741910323 = ((x1 &&& 3689348814741910323 : Nat) : Int) := land_nat (b := 3689348814741910323) (by omega)
  have k5 : land ((x1 >>> 2 : Nat) : Int) 3689348814741910323 = (((x1 >>> 2) &&& 3689348814741910323 : Nat) : Int) := land_nat (b := 3689348814741910323) (by omega)
  have l4 : x1 &&& 3689348814741910323 ≤ x1 := Nat.and_le_left
  have l5 : (x1 >>> 2) &&& 3689348814741910323 ≤ x1 >>> 2 := Nat.and_le_left
  rw [k3, k4, k5, show ((x1 &&& 3689348814741910323 : Nat) : Int) + (((x1 >>> 2) &&& 3689348814741910323 : Nat) : Int) = (((x1 &&& 3689348814741910323) + ((x1 >>> 2) &&& 3689348814741910323) : Nat) : Int) by omega]
  generalize ex2 : (x1 &&& 3689348814741910323) + ((x1 >>> 2) &&& 3689348814741910323) = x2 at *
  rw [w64_id (show ok64 (x2 : Int) from ⟨by omega, by omega⟩)]
  rintro _ rfl
  have k6 : lushr (x2 : Int) 4 = ((x2 >>> 4 : Nat) : Int) := lushr_nat (k := 4) (by omega) (by omega)
  have l6 : x2 >>> 4 ≤ x2 := Nat.shiftRight_le x2 4
  rw [k6, show (x2 : Int) + ((x2 >>> 4 : Nat) : Int) = ((x2 + (x2 >>> 4) : Nat) : Int) by omega, w64_id (show ok64 ((x2 + (x2 >>> 4) : Nat) : Int) from ⟨by omega, by omega⟩)]
  have k7 : land ((x2 + (x2 >>> 4) : Nat) : Int) 1085102592571150095 = (((x2 + (x2 >>> 4)) &&& 1085102592571150095 : Nat) : Int) := land_nat (b := 1085102592571150095) (by omega)
  have l7 : (x2 + (x2 >>> 4)) &&& 1085102592571150095 ≤ x2 + (x2 >>> 4) := Nat.and_le_left
  rw [k7]
  generalize ex3 : (x2 + (x2 >>> 4)) &&& 1085102592571150095 = x3 at *
  rintro _ rfl
  have k8 : lushr (x3 : Int) 8 = ((x3 >>> 8 : Nat) : Int) := lushr_nat (k := 8) (by omega) (by omega)
  have l8 : x3 >>> 8 ≤ x3 := Nat.shiftRight_le x3 8
  rw [k8, show (x3 : Int) + ((x3 >>> 8 : Nat) : Int) = ((x3 + (x3 >>> 8) : Nat) : Int) by omega, w64_id (show ok64 ((x3 + (x3 >>> 8) : Nat) : Int) from ⟨by omega, by omega⟩)]
  generalize ex4 : x3 + (x3 >>> 8) = x4 at *
  rintro _ rfl
  have k9 : lushr (x4 : Int) 16 = ((x4 >>> 16 : Nat) : Int) := lushr_nat (k := 16) (by omega) (by omega)
  have l9 : x4 >>> 16 ≤ x4 := Nat.shiftRight_le x4 16
  rw [k9, show (x4 : Int) + ((x4 >>> 16 : Nat) : Int) = ((x4 + (x4 >>> 16) : Nat) : Int) by omega, w64_id (show ok64 ((x4 + (x4 >>> 16) : Nat) : Int) from ⟨by omega, by omega⟩)]
  generalize ex5 : x4 + (x4 >>> 16) = x5 at *
  rintro _ rfl
  have k10 : lushr (x5 : Int) 32 = ((x5 >>> 32 : Nat) : Int) := lushr_nat (k := 32) (by omega) (by omega)
  have l10 : x5 >>> 32 ≤ x5 := Nat.shiftRight_le x5 32
  rw [k10, show (x5 : Int) + ((x5 >>> 32 : Nat) : Int) = ((x5 + (x5 >>> 32) : Nat) : Int) by omega, w64_id (show ok64 ((x5 + (x5 >>> 32) : Nat) : Int) from ⟨by omega, by omega⟩)]
  generalize ex6 : x5 + (x5 >>> 32) = x6 at *
  rintro _ rfl
  -- the lowest bits
  have m127 : ∀ x : Nat, x &&& 127 = x % 128 := fun x => Nat.and_two_pow_sub_one_eq_mod x 7
  rw [m127] at pb
  have hw : w32 (x6 : Int) = (((x6 % 4294967296 : Nat) : Int)) ∨ w32 (x6 : Int) = (((x6 % 4294967296 : Nat) : Int)) - 4294967296 := by
    have o := w32_ok (x6 : Int)
    unfold w32 at o ⊢
    have e := Int.emod_add_mul_ediv (x6 : Int) 4294967296
    have b := Int.bmod_def (x6 : Int) 4294967296
    rw [b]
    split <;> omega
  have fin : iand (w32 (x6 : Int)) 127 = ((x6 % 128 : Nat) : Int) := by
    have bv : (i32 (w32 (x6 : Int))).toBitVec = BitVec.ofNat 32 x6 := by
      rw [i32_w]
      exact i32_nb x6
    unfold iand
    refine bv_nat ?_ (by omega)
    rw [Int32.toBitVec_and, bv]
    show BitVec.ofNat 32 x6 &&& (i32 ((127 : Nat) : Int)).toBitVec = _
    rw [i32_nb]
    apply BitVec.eq_of_toNat_eq
    rw [BitVec.toNat_and, BitVec.toNat_ofNat, BitVec.toNat_ofNat, BitVec.toNat_ofNat]
    rw [show 127 % 2 ^ 32 = 127 by decide, m127]
    omega
  rw [fin, pb]
  exact h
