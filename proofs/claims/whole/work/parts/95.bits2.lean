/-! bits counted: the class's way is the reference's -/
def bcOk : Nat → Bool
  | 0 => true
  | k + 1 => decide (bcI k = ((bcF 10 k : Nat) : Int)) && bcOk k
set_option maxRecDepth 100000 in
theorem bcOk_all : bcOk 1024 = true := by decide +kernel
theorem bcOk_at : ∀ n : Nat, bcOk n = true → ∀ k, k < n → bcI k = ((bcF 10 k : Nat) : Int)
  | 0, _, k, hk => absurd hk (by omega)
  | n + 1, h, k, hk => by
    rw [bcOk, Bool.and_eq_true] at h
    by_cases z : k = n
    · rw [z]; exact of_decide_eq_true h.1
    · exact bcOk_at n h.2 k (by omega)
theorem bcF_low : ∀ (d n : Nat), n < 2 ^ d → ∀ e, bcF (d + e) n = bcF d n
  | 0, n, h, e => by
    rw [show n = 0 by omega, bcF_0, bcF_0]
  | d + 1, n, h, e => by
    rw [show d + 1 + e = (d + e) + 1 by omega, bcF, bcF, bcF_low d (n / 2) (by rw [Nat.pow_succ] at h; omega) e]
theorem bcI_eq {x : Nat} (h : x < 1024) : bcI x = ((bcF 30 x : Nat) : Int) := by
  rw [bcOk_at 1024 bcOk_all x h, show (30 : Nat) = 10 + 20 from rfl, bcF_low 10 x h 20]
theorem t_bitCount (S : St) (x : Nat) (Q : Option AV → St → Prop) (h : x < 1024) (hQ : Q (some (.inl ((bcF 30 x : Nat) : Int))) S) : Smm H_Integer_bitCount 0 [some (.inl (x : Int))] [] S Q := by
  rw [← bcI_eq h] at hQ
  refine sound ok_Integer_bitCount [] 80 ?_
  exact hQ
