section Sz
/-- how many bits of the lowest ten -/
def szN (k : Nat) : Nat := k % 2 + k / 2 % 2 + k / 4 % 2 + k / 8 % 2 + k / 16 % 2 + k / 32 % 2 + k / 64 % 2 + k / 128 % 2 + k / 256 % 2 + k / 512 % 2
theorem bc_all : ∀ k : Fin 1024, f_Integer_bitCount (iN k.val) = some (iN (szN k.val)) := by decide +kernel
theorem bitCount_eq {k : Nat} (hk : k < 1024) : f_Integer_bitCount (iN k) = some (iN (szN k)) := bc_all ⟨k, hk⟩
def btM (a : Int32) : Int32 := lp (fun i z => z + ((a >>> (iN i &&& 31)) &&& 1)) 31 0 0
theorem bt_all : ∀ k : Fin 1024, btM (iN k.val) = iN (szN k.val) := by decide +kernel
theorem f_R_bits_eq {N k : Nat} (hN : 40 < N) (hk : k < 1024) : f_R_bits N (iN k) = some (iN (szN k)) := by
  have h : f_R_bits N (iN k) = some (btM (iN k)) := by
    unfold f_R_bits btM
    refine lp_run (F := fun fuel i z => f_R_bits_4 N (iN k) fuel z (iN i)) (f := fun i z => z + ((iN k >>> (iN i &&& 31)) &&& 1)) (fin := fun z => some z) (n := 31) (fun fuel z => ?_) (fun fuel i z hi => ?_) 31 0 0 N (by decide) (by omega)
    · rw [f_R_bits_4, if_pos (show (31 : Int32) ≤ iN 31 from i_le_rfl _)]
    · rw [f_R_bits_4, if_neg (show ¬ (31 : Int32) ≤ iN i from iN_nle (n := 31) hi (by decide)), iN_s]
  rw [h]
  exact congrArg some (bt_all ⟨k, hk⟩)
end Sz
