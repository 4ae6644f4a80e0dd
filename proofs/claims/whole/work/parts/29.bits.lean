/-! bits, by looking at all small numbers -/
theorem or_bit : ∀ t : Nat, t < 10 → ∀ v : Nat, v < 2 ^ t → i_or (v : Int) (i_shl 1 (t : Int)) = ((v + 2 ^ t : Nat) : Int) := by decide +kernel
theorem bit_of : ∀ t : Nat, t < 10 → ∀ b : Nat, b < 1024 → i_and (i_shr (b : Int) (t : Int)) 1 = ((b / 2 ^ t % 2 : Nat) : Int) := by decide +kernel
def popc (b : Nat) : Nat := b % 2 + b / 2 % 2 + b / 4 % 2 + b / 8 % 2 + b / 16 % 2 + b / 32 % 2 + b / 64 % 2 + b / 128 % 2 + b / 256 % 2 + b / 512 % 2
def bcv (v : Int) : Int := ((f_J6_bitCount_0f7a4 0 v (fun _ _ => 0)).map (fun q => q.1)).getD 0
theorem bcv_s : ∀ b : Nat, b < 1024 → bcv (b : Int) = ((popc b : Nat) : Int) := by decide +kernel
theorem bitCount_s {N b : Nat} {M : Mem} (h : b < 1024) : f_J6_bitCount_0f7a4 N (b : Int) M = some (((popc b : Nat) : Int), M) := by
  rw [← bcv_s b h]
  rfl
