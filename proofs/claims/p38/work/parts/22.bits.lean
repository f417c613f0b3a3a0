/-! whole numbers as the machine's; sets as bits. The rows bt .. b_sshr begin from kit/laws/BITS.to-paste -/
def bt (x : Int32) (i : Nat) : Bool := x.toBitVec.getLsbD i
theorem b_ext {x y : Int32} (h : ∀ i, i < 32 → bt x i = bt y i) : x = y := Int32.toBitVec_inj.mp (BitVec.eq_of_getLsbD_eq (fun i hi => h i hi))
theorem b_or (x y : Int32) (i : Nat) : bt (x ||| y) i = (bt x i || bt y i) := by unfold bt; rw [Int32.toBitVec_or, BitVec.getLsbD_or]
theorem b_and (x y : Int32) (i : Nat) : bt (x &&& y) i = (bt x i && bt y i) := by unfold bt; rw [Int32.toBitVec_and, BitVec.getLsbD_and]
theorem b_xor (x y : Int32) (i : Nat) : bt (x ^^^ y) i = (bt x i ^^ bt y i) := by unfold bt; rw [Int32.toBitVec_xor, BitVec.getLsbD_xor]
theorem b_big {x : Int32} {i : Nat} (h : 32 ≤ i) : bt x i = false := BitVec.getLsbD_of_ge _ _ h
theorem b_m1 : ∀ i, i < 32 → bt (-1) i = true := by decide +kernel
theorem b_0 (i : Nat) : bt 0 i = false := BitVec.getLsbD_zero
theorem s_l : ∀ n, n < 32 → ((nI n &&& 31).toBitVec.smod 32).toNat = n := by decide +kernel
theorem b_shl (n : Nat) (hn : n < 32) (x : Int32) {i : Nat} (hi : i < 32) : bt (x <<< (nI n &&& 31)) i = (decide (n ≤ i) && bt x (i - n)) := by
  unfold bt
  rw [Int32.toBitVec_shiftLeft]
  show (x.toBitVec <<< ((nI n &&& 31).toBitVec.smod 32).toNat).getLsbD i = _
  rw [s_l n hn, BitVec.getLsbD_shiftLeft]
  rcases Nat.lt_or_ge i n with h | h
  · simp [h, Nat.not_le.mpr h]
  · simp [hi, h, Nat.not_lt.mpr h]
theorem b_sshr (n : Nat) (hn : n < 32) (x : Int32) {i : Nat} (hi : i < 32) : bt (x >>> (nI n &&& 31)) i = if n + i < 32 then bt x (n + i) else bt x 31 := by
  unfold bt
  rw [Int32.toBitVec_shiftRight]
  show (x.toBitVec.sshiftRight ((nI n &&& 31).toBitVec.smod 32).toNat).getLsbD i = _
  rw [s_l n hn, BitVec.getLsbD_sshiftRight, BitVec.msb_eq_getLsbD_last]
  simp [hi]
theorem zInt (n : Nat) : Int32.ofInt (n : Int) = nI n := Int32.ofInt_eq_ofNat
theorem zadd_eq {x y : Int} (h1 : -2147483648 ≤ x + y) (h2 : x + y < 2147483648) : zadd x y = x + y := by
  unfold zadd
  rw [← Int32.ofInt_add, ztoI ⟨h1, h2⟩]
theorem zsub_eq {x y : Int} (h1 : -2147483648 ≤ x - y) (h2 : x - y < 2147483648) : zsub x y = x - y := by
  unfold zsub
  rw [← Int32.ofInt_sub, ztoI ⟨h1, h2⟩]
theorem zmul_eq {x y : Int} (h1 : -2147483648 ≤ x * y) (h2 : x * y < 2147483648) : zmul x y = x * y := by
  unfold zmul
  rw [← Int32.ofInt_mul, ztoI ⟨h1, h2⟩]
theorem zdiv_nat {a d : Nat} (ha : a < 2147483648) (h0 : 0 < d) (hd : d < 2147483648) : zdiv (a : Int) (d : Int) = ((a / d : Nat) : Int) := by
  unfold zdiv
  rw [zInt, zInt, pk_div (by omega) h0 (by omega)]
  exact nI_toInt (Nat.lt_of_le_of_lt (Nat.div_le_self _ _) (by omega))
theorem zrem_nat {a d : Nat} (ha : a < 2147483648) (h0 : 0 < d) (hd : d < 2147483648) : zrem (a : Int) (d : Int) = ((a % d : Nat) : Int) := by
  unfold zrem
  rw [zInt, zInt, pk_rem (by omega) h0 (by omega)]
  exact nI_toInt (Nat.lt_of_le_of_lt (Nat.mod_le _ _) (by omega))
def zbit (x : Int) (i : Nat) : Bool := bt (Int32.ofInt x) i
theorem zbit_and (x y : Int) (i : Nat) : zbit (zand x y) i = (zbit x i && zbit y i) := by
  unfold zbit zand
  rw [zofI, b_and]
theorem zbit_or (x y : Int) (i : Nat) : zbit (zor x y) i = (zbit x i || zbit y i) := by
  unfold zbit zor
  rw [zofI, b_or]
theorem zbit_not (x : Int) {i : Nat} (hi : i < 32) : zbit (zxor x (-1)) i = !zbit x i := by
  unfold zbit zxor
  rw [zofI, b_xor, show Int32.ofInt (-1) = (-1 : Int32) from rfl, b_m1 i hi, Bool.xor_true]
theorem bt_nI {k i : Nat} (hi : i < 32) : bt (nI k) i = k.testBit i := by
  show (BitVec.ofNat 32 k).getLsbD i = _
  rw [BitVec.getLsbD_ofNat]
  simp [hi]
theorem zbit_nat (k : Nat) {i : Nat} (hi : i < 32) : zbit (k : Int) i = k.testBit i := by
  unfold zbit
  rw [zInt, bt_nI hi]
theorem zbit_big {x : Int} {i : Nat} (h : 32 ≤ i) : zbit x i = false := b_big h
theorem zext {x y : Int} (hx : zin32 x) (hy : zin32 y) (h : ∀ i, i < 32 → zbit x i = zbit y i) : x = y := (zeqI hx hy).mp (b_ext h)
theorem zand_in (x y : Int) : zin32 (zand x y) := zin32_toInt _
theorem zor_in (x y : Int) : zin32 (zor x y) := zin32_toInt _
theorem zshl_in (x y : Int) : zin32 (zshl x y) := zin32_toInt _
theorem zbit_shl (x : Int) {n : Nat} (hn : n < 32) {i : Nat} (hi : i < 32) : zbit (zshl x (n : Int)) i = (decide (n ≤ i) && zbit x (i - n)) := by
  unfold zbit zshl
  rw [zofI, zInt, b_shl n hn _ hi]
theorem zbit_shr (x : Int) {n : Nat} (hn : n < 32) {i : Nat} (hi : i < 32) : zbit (zshr x (n : Int)) i = if n + i < 32 then zbit x (n + i) else zbit x 31 := by
  unfold zbit zshr
  rw [zofI, zInt, b_sshr n hn _ hi]
theorem zbit_1 (i : Nat) : zbit 1 i = decide (i = 0) := by
  by_cases h : i < 32
  · rw [show (1 : Int) = ((1 : Nat) : Int) from rfl, zbit_nat 1 h]
    cases i with
    | zero => rfl
    | succ i => rw [Nat.testBit_succ, show 1 / 2 = 0 from rfl, Nat.zero_testBit]; simp
  · rw [zbit_big (by omega)]; simp; omega
theorem zhas (x : Int) {n : Nat} (hn : n < 32) : zand (zshr x (n : Int)) 1 = if zbit x n = true then 1 else 0 := by
  have key : ∀ i, i < 32 → zbit (zand (zshr x (n : Int)) 1) i = (zbit x n && decide (i = 0)) := by
    intro i hi
    rw [zbit_and, zbit_shr x hn hi, zbit_1]
    by_cases h0 : i = 0
    · subst h0; rw [Nat.add_zero, if_pos hn]
    · simp [h0]
  refine zext (zand_in _ _) ?_ fun i hi => ?_
  · split
    · exact ⟨by decide, by decide⟩
    · exact zin0
  · rw [key i hi]
    cases hb : zbit x n with
    | true => rw [if_pos rfl, zbit_1]; simp
    | false => rw [if_neg (by simp)]; simp [zbit, show Int32.ofInt 0 = (0 : Int32) from rfl, b_0]
/-- the set of those below n with f, as bits -/
def zsn : Nat → (Nat → Bool) → Nat
  | 0, _ => 0
  | n + 1, f => zsn n f + if f n then 2 ^ n else 0
def zset (n : Nat) (f : Nat → Bool) : Int := (zsn n f : Int)
theorem zsn_lt : ∀ (n : Nat) (f : Nat → Bool), zsn n f < 2 ^ n
  | 0, _ => by simp [zsn]
  | n + 1, f => by
    have := zsn_lt n f
    unfold zsn
    rw [Nat.pow_succ]
    split <;> omega
theorem zsn_bit : ∀ (n : Nat) (f : Nat → Bool) (i : Nat), (zsn n f).testBit i = (decide (i < n) && f i)
  | 0, _, i => by simp [zsn]
  | n + 1, f, i => by
    have ih := zsn_bit n f
    have hl := zsn_lt n f
    unfold zsn
    cases hf : f n with
    | false =>
      rw [if_neg (by simp), Nat.add_zero, ih i]
      by_cases h : i = n
      · subst h; simp [hf]
      · rw [show decide (i < n + 1) = decide (i < n) from decide_eq_decide.mpr (by omega)]
    | true =>
      rw [if_pos rfl, Nat.add_comm]
      rcases Nat.lt_trichotomy i n with h | h | h
      · rw [Nat.testBit_two_pow_add_gt h, ih i]
        simp [h, show i < n + 1 by omega]
      · subst h
        rw [Nat.testBit_two_pow_add_eq, ih i]
        simp [hf]
      · have h1 : 2 ^ n + zsn n f < 2 ^ i := Nat.lt_of_lt_of_le (by rw [Nat.pow_succ]; omega : _ < 2 ^ (n + 1)) (Nat.pow_le_pow_right (by omega) h)
        rw [Nat.testBit_lt_two_pow h1]
        simp; omega
theorem zset_0 (n : Nat) (f : Nat → Bool) : 0 ≤ zset n f := Int.natCast_nonneg _
theorem zpow_le {n : Nat} (h : n ≤ 30) : 2 ^ n ≤ 1073741824 := Nat.pow_le_pow_right (n := 2) (by omega) h
theorem zset_in {n : Nat} (h : n ≤ 30) (f : Nat → Bool) : zin32 (zset n f) := by
  have h1 := zset_0 n f
  have h2 := zsn_lt n f
  have h3 := zpow_le h
  constructor
  · omega
  · unfold zset; omega
theorem zset_bit {n : Nat} (h : n ≤ 30) (f : Nat → Bool) (i : Nat) : zbit (zset n f) i = (decide (i < n) && f i) := by
  by_cases hi : i < 32
  · unfold zset; rw [zbit_nat _ hi, zsn_bit]
  · rw [zbit_big (by omega)]; simp; omega
theorem zset_cong {n : Nat} {f g : Nat → Bool} (h : ∀ i, i < n → f i = g i) : zset n f = zset n g := by
  have : ∀ m, m ≤ n → zsn m f = zsn m g := by
    intro m
    induction m with
    | zero => intro _; rfl
    | succ m ih => intro hm; unfold zsn; rw [ih (by omega), h m (by omega)]
  unfold zset
  rw [this n (Nat.le_refl _)]
theorem zset_inj {n : Nat} (hn : n ≤ 30) {f g : Nat → Bool} (h : zset n f = zset n g) : ∀ i, i < n → f i = g i := by
  intro i hi
  have h1 := zset_bit hn f i
  rw [h, zset_bit hn g i] at h1
  simpa [hi] using h1.symm
theorem zset_and {n : Nat} (hn : n ≤ 30) (f g : Nat → Bool) : zand (zset n f) (zset n g) = zset n fun i => f i && g i := by
  refine zext (zand_in _ _) (zset_in hn _) fun i _ => ?_
  rw [zbit_and, zset_bit hn, zset_bit hn, zset_bit hn]
  cases decide (i < n) <;> simp
theorem zset_or {n : Nat} (hn : n ≤ 30) (f g : Nat → Bool) : zor (zset n f) (zset n g) = zset n fun i => f i || g i := by
  refine zext (zor_in _ _) (zset_in hn _) fun i _ => ?_
  rw [zbit_or, zset_bit hn, zset_bit hn, zset_bit hn]
  cases decide (i < n) <;> simp
theorem zset_dif {n : Nat} (hn : n ≤ 30) (f g : Nat → Bool) : zand (zset n f) (zxor (zset n g) (-1)) = zset n fun i => f i && !g i := by
  refine zext (zand_in _ _) (zset_in hn _) fun i hi => ?_
  rw [zbit_and, zbit_not _ hi, zset_bit hn, zset_bit hn, zset_bit hn]
  cases decide (i < n) <;> simp
theorem zset_none {n : Nat} : zset n (fun _ => false) = 0 := by
  have : ∀ m, zsn m (fun _ => false) = 0 := by
    intro m
    induction m with
    | zero => rfl
    | succ m ih => simp [zsn, ih]
  unfold zset
  rw [this n]; rfl
theorem zset_eq0 {n : Nat} (hn : n ≤ 30) {f : Nat → Bool} : zset n f = 0 ↔ ∀ i, i < n → f i = false := by
  constructor
  · intro h i hi
    rw [← zset_none (n := n)] at h
    exact zset_inj hn h i hi
  · intro h
    rw [zset_cong h, zset_none]
theorem zpow_in {n : Nat} (h : n ≤ 30) : zin32 ((2 ^ n : Nat) : Int) := by
  have h3 := zpow_le h
  revert h3
  generalize 2 ^ n = k
  intro h3
  exact ⟨by omega, by omega⟩
theorem zshl_1 {n : Nat} (hn : n ≤ 30) : zshl 1 (n : Int) = ((2 ^ n : Nat) : Int) := by
  refine zext (zshl_in _ _) (zpow_in hn) fun i hi => ?_
  rw [zbit_shl _ (by omega) hi, zbit_1, zbit_nat _ hi, Nat.testBit_two_pow]
  by_cases h : n = i
  · subst h; simp
  · simp [h]; omega
theorem zset_all (n : Nat) : zset n (fun _ => true) = ((2 ^ n : Nat) : Int) - 1 := by
  have : ∀ m, zsn m (fun _ => true) + 1 = 2 ^ m := by
    intro m
    induction m with
    | zero => rfl
    | succ m ih => unfold zsn; rw [if_pos rfl, Nat.pow_succ]; omega
  have := this n
  unfold zset
  omega
/-- one more -/
theorem zset_up {n i : Nat} (hn : n ≤ 30) (hi : i < n) (f : Nat → Bool) : zor (zset n f) (zshl 1 (i : Int)) = zset n fun j => f j || decide (j = i) := by
  refine zext (zor_in _ _) (zset_in hn _) fun j hj => ?_
  rw [zbit_or, zset_bit hn, zset_bit hn, zbit_shl _ (by omega) hj, zbit_1]
  by_cases h : j = i
  · subst h; simp [hi]
  · simp [h]; omega
