/-! the pure part: quotients that are numbers -/
theorem z32_int {x : Int} (h : -2147483648 ≤ x ∧ x < 2147483648) : (z32 x).toInt = x := Int32.toInt_ofInt_of_le (by omega) (by omega)
theorem ddiv_num {x y : Int} (hy : 0 < y ∧ y < 2147483648) : FP.ddiv (FP.i2d (z32 x)) (FP.i2d (z32 y)) &&& 0x7fffffffffffffff ≤ 0x7ff0000000000000 := by
  have h1 := FP.Core.i2d_mag (z32 x)
  have h2 := FP.Core.i2d_big (v := z32 y) (by rw [z32_int (by omega)]; omega)
  have h3 := FP.Core.ddiv_mag (K := 1056) (L := 1023) h1 h2.1 h2.2 (by omega) (by omega)
  show FP.Core.ddiv (FP.Core.i2d (z32 x)) (FP.Core.i2d (z32 y)) &&& 0x7fffffffffffffff ≤ 0x7ff0000000000000
  rw [UInt64.le_iff_toNat_le, UInt64.toNat_and, show (0x7fffffffffffffff : UInt64).toNat = 2 ^ 63 - 1 from rfl, Nat.and_two_pow_sub_one_eq_mod, show (0x7ff0000000000000 : UInt64).toNat = 2047 * 2 ^ 52 from rfl]
  omega
def fdvB (f a : Nat) : Bool := decide (FP.fdiv (FP.i2f (z32 f)) (FP.i2f (z32 a)) &&& 0x7fffffff ≤ 0x7f800000) && decide (FP.f2d (FP.fdiv (FP.i2f (z32 f)) (FP.i2f (z32 a))) &&& 0x7fffffffffffffff ≤ 0x7ff0000000000000)
theorem fdv_all : (List.range 13).all (fun f => (List.range 12).all (fun a => fdvB f (a + 1))) = true := by decide +kernel
theorem fdiv_num {f a : Int} (hf : 0 ≤ f ∧ f ≤ 12) (ha : 0 < a ∧ a ≤ 12) : FP.fdiv (FP.i2f (z32 f)) (FP.i2f (z32 a)) &&& 0x7fffffff ≤ 0x7f800000 ∧ FP.f2d (FP.fdiv (FP.i2f (z32 f)) (FP.i2f (z32 a))) &&& 0x7fffffffffffffff ≤ 0x7ff0000000000000 := by
  obtain ⟨m, rfl⟩ := Int.eq_ofNat_of_zero_le hf.1
  obtain ⟨k, rfl⟩ := Int.eq_ofNat_of_zero_le (show 0 ≤ a by omega)
  have h1 := List.all_eq_true.mp (List.all_eq_true.mp fdv_all m (List.mem_range.mpr (by omega))) (k - 1) (List.mem_range.mpr (by omega))
  unfold fdvB at h1
  rw [show k - 1 + 1 = k by omega, Bool.and_eq_true, decide_eq_true_eq, decide_eq_true_eq] at h1
  exact h1
theorem fsF_rng2 (cs : List cdT) : ∀ (j k : Nat) (f a : Int), 0 ≤ f → f ≤ a → 0 ≤ (fsF cs j k f a).1 ∧ (fsF cs j k f a).1 ≤ (fsF cs j k f a).2 ∧ (fsF cs j k f a).2 ≤ a + j
  | 0, _, f, a, h1, h2 => by unfold fsF; simp; omega
  | j + 1, k, f, a, h1, h2 => by
    unfold fsF
    split
    · have := fsF_rng2 cs j (k + 1) f a h1 h2
      omega
    · have := fsF_rng2 cs j (k + 1) (f + (if shF 2 (cs.getD k cd0).2.1 = 33554432 then 1 else 0)) (a + 1) (by split <;> omega) (by split <;> omega)
      omega
theorem fs_num {cs : List cdT} {n : Nat} (hn : n ≤ 12) (h : 0 < (fsA cs n).2) : FP.fdiv (FP.i2f (z32 (fsA cs n).1)) (FP.i2f (z32 (fsA cs n).2)) &&& 0x7fffffff ≤ 0x7f800000 ∧ FP.f2d (FP.fdiv (FP.i2f (z32 (fsA cs n).1)) (FP.i2f (z32 (fsA cs n).2))) &&& 0x7fffffffffffffff ≤ 0x7ff0000000000000 := by
  have hr := fsF_rng2 cs n 0 0 0 (Int.le_refl _) (Int.le_refl _)
  have e : fsF cs n 0 0 0 = fsA cs n := rfl
  rw [e] at hr
  exact fdiv_num (by omega) (by omega)
