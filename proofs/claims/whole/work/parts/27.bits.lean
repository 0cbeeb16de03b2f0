/-! bits -/
theorem bv_nat {a : Nat} (h : a < 2147483648) : (Int32.ofInt (a : Int)).toBitVec = BitVec.ofNat 32 a := by
  show BitVec.ofInt 32 (a : Int) = BitVec.ofNat 32 a
  exact BitVec.ofInt_natCast 32 a
theorem toInt_nat {x : BitVec 32} {n : Nat} (h : x.toNat = n) (hn : n < 2147483648) : x.toInt = (n : Int) := by
  rw [BitVec.toInt_eq_toNat_cond, h, if_pos (by omega)]
theorem ior_nat {a b : Nat} (ha : a < 2147483648) (hb : b < 2147483648) : ior (a : Int) (b : Int) = ((a ||| b : Nat) : Int) := by
  show ((Int32.ofInt (a : Int)).toBitVec ||| (Int32.ofInt (b : Int)).toBitVec).toInt = _
  rw [bv_nat ha, bv_nat hb]
  refine toInt_nat ?_ (Nat.or_lt_two_pow (n := 31) ha hb)
  rw [BitVec.toNat_or, BitVec.toNat_ofNat, BitVec.toNat_ofNat, Nat.mod_eq_of_lt (by omega), Nat.mod_eq_of_lt (by omega)]
theorem iand_nat {a b : Nat} (ha : a < 2147483648) (hb : b < 2147483648) : iand (a : Int) (b : Int) = ((a &&& b : Nat) : Int) := by
  show ((Int32.ofInt (a : Int)).toBitVec &&& (Int32.ofInt (b : Int)).toBitVec).toInt = _
  rw [bv_nat ha, bv_nat hb]
  refine toInt_nat ?_ (Nat.and_lt_two_pow (n := 31) a hb)
  rw [BitVec.toNat_and, BitVec.toNat_ofNat, BitVec.toNat_ofNat, Nat.mod_eq_of_lt (by omega), Nat.mod_eq_of_lt (by omega)]
theorem sh_amt : ∀ k : Nat, k < 32 → ((Int32.ofInt (k : Int) &&& 31).toBitVec.smod 32).toNat = k := by
  intro k hk
  have : k = 0 ∨ k = 1 ∨ k = 2 ∨ k = 3 ∨ k = 4 ∨ k = 5 ∨ k = 6 ∨ k = 7 ∨ k = 8 ∨ k = 9 ∨ k = 10 ∨ k = 11 ∨ k = 12 ∨ k = 13 ∨ k = 14 ∨ k = 15 ∨ k = 16 ∨ k = 17 ∨ k = 18 ∨ k = 19 ∨ k = 20 ∨ k = 21 ∨ k = 22 ∨ k = 23 ∨ k = 24 ∨ k = 25 ∨ k = 26 ∨ k = 27 ∨ k = 28 ∨ k = 29 ∨ k = 30 ∨ k = 31 := by omega
  rcases this with rfl | rfl | rfl | rfl | rfl | rfl | rfl | rfl | rfl | rfl | rfl | rfl | rfl | rfl | rfl | rfl | rfl | rfl | rfl | rfl | rfl | rfl | rfl | rfl | rfl | rfl | rfl | rfl | rfl | rfl | rfl | rfl <;> rfl
theorem ishr_bv (a : Int) {k : Nat} (hk : k < 32) : ishr a (k : Int) = ((BitVec.ofInt 32 a).sshiftRight k).toInt := by
  show ((Int32.ofInt a).toBitVec.sshiftRight ((Int32.ofInt (k : Int) &&& 31).toBitVec.smod 32).toNat).toInt = _
  rw [sh_amt k hk]
  rfl
theorem ishl_bv (a : Int) {k : Nat} (hk : k < 32) : ishl a (k : Int) = ((BitVec.ofInt 32 a) <<< k).toInt := by
  show ((Int32.ofInt a).toBitVec <<< ((Int32.ofInt (k : Int) &&& 31).toBitVec.smod 32).toNat).toInt = _
  rw [sh_amt k hk]
  rfl
theorem ishr_nat {a k : Nat} (ha : a < 2147483648) (hk : k < 32) : ishr (a : Int) (k : Int) = ((a / 2 ^ k : Nat) : Int) := by
  rw [ishr_bv _ hk, BitVec.toInt_sshiftRight, BitVec.ofInt_natCast, toInt_nat (n := a) (by rw [BitVec.toNat_ofNat, Nat.mod_eq_of_lt (by omega)]) ha, Int.shiftRight_eq_div_pow]
  norm_cast
theorem ishl_nat {k : Nat} (hk : k ≤ 30) : ishl 1 (k : Int) = ((2 ^ k : Nat) : Int) := by
  have h2 : 2 ^ k ≤ 2 ^ 30 := Nat.pow_le_pow_right (by omega) hk
  rw [ishl_bv _ (by omega)]
  refine toInt_nat ?_ (by omega)
  rw [BitVec.toNat_shiftLeft, show (BitVec.ofInt 32 1).toNat = 1 from rfl, Nat.shiftLeft_eq, Nat.one_mul, Nat.mod_eq_of_lt (by omega)]
theorem iand1 {a : Nat} (ha : a < 2147483648) : iand (a : Int) 1 = ((a % 2 : Nat) : Int) := by
  have := iand_nat (b := 1) ha (by omega)
  rw [show ((1 : Nat) : Int) = 1 from rfl] at this
  rw [this, Nat.and_one_is_mod]
/-- bit k of a -/
theorem bit_nat {a k : Nat} (ha : a < 2147483648) (hk : k < 32) : iand (ishr (a : Int) (k : Int)) 1 = ((a / 2 ^ k % 2 : Nat) : Int) := by
  rw [ishr_nat ha hk, iand1 (Nat.lt_of_le_of_lt (Nat.div_le_self _ _) ha)]
theorem bitF_add {p : Nat → Bool} : ∀ k : Nat, k ≤ 31 → ∃ x : Nat, bitF p k = (x : Int) ∧ x < 2 ^ k ∧ ∀ j : Nat, x / 2 ^ j % 2 = if j < k ∧ p j = true then 1 else 0
  | 0, _ => ⟨0, rfl, by simp, fun j => by simp⟩
  | k + 1, hk => by
    obtain ⟨x, h1, h2, h3⟩ := bitF_add (p := p) k (by omega)
    have hp : 2 ^ k ≤ 2 ^ 30 := Nat.pow_le_pow_right (by omega) (by omega)
    have h2k : 2 ^ (k + 1) = 2 ^ k * 2 := Nat.pow_succ 2 k
    rw [bitF]
    by_cases hz : p k = true
    · rw [if_pos hz, h1, ishl_nat (by omega), ior_nat (by omega) (by omega)]
      have he : x ||| 2 ^ k = 2 ^ k + x := by
        rw [Nat.or_comm]
        have := Nat.two_pow_add_eq_or_of_lt h2 1
        rw [Nat.mul_one] at this
        exact this.symm
      rw [he]
      refine ⟨_, rfl, by omega, fun j => ?_⟩
      by_cases hj : j < k
      · have h4 := h3 j
        obtain ⟨d, rfl⟩ : ∃ d, k = j + 1 + d := ⟨k - (j + 1), by omega⟩
        have e : 2 ^ (j + 1 + d) + x = x + 2 ^ j * (2 * 2 ^ d) := by rw [Nat.pow_add, Nat.pow_succ, Nat.add_comm, Nat.mul_assoc]
        rw [e, Nat.add_mul_div_left _ _ (Nat.pow_pos (by omega)), Nat.add_mul_mod_self_left, h4]
        simp [show j < j + 1 + d + 1 by omega, show j < j + 1 + d by omega]
      · by_cases hjk : j = k
        · subst hjk
          rw [show 2 ^ j + x = x + 2 ^ j * 1 by omega, Nat.add_mul_div_left _ _ (Nat.pow_pos (by omega)), Nat.div_eq_of_lt h2]
          simp [hz]
        · have : 2 ^ (k + 1) ≤ 2 ^ j := Nat.pow_le_pow_right (by omega) (by omega)
          rw [Nat.div_eq_of_lt (by omega)]
          simp [show ¬ j < k + 1 by omega]
    · rw [if_neg hz]
      refine ⟨x, h1, by omega, fun j => ?_⟩
      rw [h3 j]
      by_cases hjk : j = k
      · subst hjk; simp [hz]
      · simp [show (j < k + 1 ↔ j < k) by omega]
theorem bitF_b {p : Nat → Bool} {k : Nat} (hk : k ≤ 31) : 0 ≤ bitF p k ∧ bitF p k < 2 ^ k := by
  obtain ⟨x, h1, h2, _⟩ := bitF_add (p := p) k hk
  rw [h1]
  exact ⟨by omega, by exact_mod_cast h2⟩
theorem bitF_congr {p q : Nat → Bool} : ∀ k : Nat, (∀ j, j < k → p j = q j) → bitF p k = bitF q k
  | 0, _ => rfl
  | k + 1, h => by rw [bitF, bitF, bitF_congr k (fun j hj => h j (by omega)), h k (by omega)]
/-- how many bits -/
def bcF : Nat → Nat → Nat
  | 0, _ => 0
  | d + 1, n => n % 2 + bcF d (n / 2)
theorem bcF_0 : ∀ d : Nat, bcF d 0 = 0
  | 0 => rfl
  | d + 1 => by rw [bcF, show 0 / 2 = 0 from rfl, bcF_0 d]
theorem bcF_le : ∀ d n : Nat, bcF d n ≤ d
  | 0, _ => Nat.le_refl 0
  | d + 1, n => by
    have := bcF_le d (n / 2)
    rw [bcF]; omega
theorem t_M_bitsOf (S : St) (n : Nat) (Q : Option AV → St → Prop) (hn : n < 2 ^ 30) (hQ : Q (some (.inl (bcF 30 n))) S) : Smm H_M_bitsOf 0 [some (.inl (n : Int)), none, none] [] S Q := by
  have loop : ∀ (d k m : Nat), k < 2 ^ d → d ≤ 30 → (m : Int) + d ≤ 40 → m + bcF d k = bcF 30 n → Smm H_M_bitsOf 4 [some (.inl (n : Int)), some (.inl (m : Int)), some (.inl (k : Int))] [] S Q := by
    intro d
    induction d with
    | zero =>
      intro k m hk hd hm he
      refine sound ok_M_bitsOf [4] 20 ?_
      have : k = 0 := by simpa using hk
      subst this
      refine ⟨fun _ => ?_, fun h => absurd h (by omega)⟩
      rw [bcF_0, Nat.add_zero] at he
      rw [he]
      exact hQ
    | succ d ih =>
      intro k m hk hd hm he
      refine sound ok_M_bitsOf [4] 20 ?_
      refine ⟨fun h => ?_, fun h => ?_⟩
      · have : k = 0 := by omega
        subst this
        rw [bcF_0, Nat.add_zero] at he
        rw [he]
        exact hQ
      · have h30 : 2 ^ (d + 1) ≤ 2 ^ 30 := Nat.pow_le_pow_right (by omega) hd
        have h2d : 2 ^ (d + 1) = 2 ^ d * 2 := Nat.pow_succ 2 d
        rw [bcF] at he
        refine Smm.sub (ih (k / 2) (m + k % 2) (by omega) (by omega) (by omega) (by omega)) ⟨Or.inr rfl, Or.inr (sI ?_), Or.inr (sI ?_), trivial⟩
        · rw [iand1 (by omega)]
          unfold i32
          omega
        · have := ishr_nat (a := k) (k := 1) (by omega) (by omega)
          rw [show ((1 : Nat) : Int) = 1 from rfl] at this
          rw [this]
  refine sound ok_M_bitsOf [4] 20 ?_
  exact loop 30 n 0 hn (by omega) (by omega) (by omega)
