theorem wb_tb (n : Nat) : (lN n).toBitVec = BitVec.ofNat 64 n := rfl
theorem wb_inj {a b : Int64} (h : a.toBitVec = b.toBitVec) : a = b := Int64.toBitVec_inj.mp h
theorem wb_c : ∀ k, k < 64 → ((nI k).toInt64 &&& 63) = lN k := by decide +kernel
theorem wb_sm : ∀ k, k < 64 → (BitVec.ofNat 64 k).smod 64 = BitVec.ofNat 64 k := by decide +kernel
theorem s_l : ∀ n, n < 32 → ((nI n &&& 31).toBitVec.smod 32).toNat = n := by decide +kernel
/-! one bit of a long -/
def ov_b (x : Int64) (j : Nat) : Bool := x.toBitVec.getLsbD j
theorem ov_bx {x y : Int64} (h : ∀ j, j < 64 → ov_b x j = ov_b y j) : x = y := wb_inj (BitVec.eq_of_getLsbD_eq (fun i hi => h i hi))
theorem ov_b_and (x y : Int64) (j : Nat) : ov_b (x &&& y) j = (ov_b x j && ov_b y j) := by
  unfold ov_b
  rw [Int64.toBitVec_and, BitVec.getLsbD_and]
theorem ov_b_or (x y : Int64) (j : Nat) : ov_b (x ||| y) j = (ov_b x j || ov_b y j) := by
  unfold ov_b
  rw [Int64.toBitVec_or, BitVec.getLsbD_or]
theorem ov_b_not (x : Int64) {j : Nat} (hj : j < 64) : ov_b (x ^^^ (-1)) j = !ov_b x j := by
  have ha : (-1 : Int64).toBitVec = BitVec.allOnes 64 := by decide
  unfold ov_b
  rw [Int64.toBitVec_xor, BitVec.getLsbD_xor, ha, BitVec.getLsbD_allOnes, decide_eq_true hj, Bool.xor_true]
theorem ov_b_0 (j : Nat) : ov_b 0 j = false := by
  unfold ov_b
  exact BitVec.getLsbD_zero
theorem ov_b_z (x : Int64) : x = 0 ↔ ∀ j, j < 64 → ov_b x j = false :=
  ⟨fun e j _ => by rw [e, ov_b_0], fun h => ov_bx fun j hj => by rw [h j hj, ov_b_0]⟩
theorem ov_b_shl : ∀ a, a < 32 → ∀ j, j < 64 → ov_b ((1 : Int64) <<< ((nI a).toInt64 &&& 63)) j = decide (j = a) := by decide +kernel
theorem ov_b_full : ∀ N, N < 6 → ∀ j, j < 64 → ov_b (((1 : Int64) <<< ((nI (2 ^ N)).toInt64 &&& 63)) - 1) j = decide (j < 2 ^ N) := by decide +kernel
theorem ov_b_con (S : Int64) {a : Nat} (ha : a < 64) : ((S >>> ((nI a).toInt64 &&& 63)) &&& 1) = 1 ↔ ov_b S a = true := by
  rw [wb_c a ha, ← Int64.toBitVec_inj, Int64.toBitVec_and, Int64.toBitVec_shiftRight, wb_tb]
  show (S.toBitVec.sshiftRight ((BitVec.ofNat 64 a).smod 64).toNat &&& 1#64) = 1#64 ↔ _
  rw [wb_sm a ha, BitVec.toNat_ofNat, Nat.mod_eq_of_lt (show a < 2 ^ 64 by omega)]
  unfold ov_b
  constructor
  · intro h
    have t := congrArg (fun x => x.getLsbD 0) h
    simp only [BitVec.getLsbD_and, BitVec.getLsbD_sshiftRight] at t
    simpa [ha] using t
  · intro h
    apply BitVec.eq_of_getLsbD_eq
    intro i hi
    rw [BitVec.getLsbD_and, BitVec.getLsbD_sshiftRight]
    cases i with
    | zero => simp [ha, h]
    | succ i => simp
theorem ov_sh1 : ∀ N, N < 6 → (1 : Int32) <<< (nI N &&& 31) = nI (2 ^ N) := by decide +kernel
theorem ov_t : vp_nar .boolean 1 = 1 := by decide
theorem ov_f : vp_nar .boolean 0 = 0 := by decide
theorem ov_nt : narrow .boolean (.int 1) = .int 1 := by decide
theorem ov_nf : narrow .boolean (.int 0) = .int 0 := by decide
theorem ov_nb (x : Bool) : narrow .boolean (.int (ov_bI x)) = .int (ov_bI x) := by
  cases x
  · exact ov_nf
  · exact ov_nt
theorem ov_vb (x : Bool) : vp_nar .boolean (ov_bI x) = ov_bI x := by
  cases x
  · exact ov_f
  · exact ov_t
theorem ov_bI0 (x : Bool) : ov_bI x = 0 ↔ x = false := by cases x <;> decide
theorem ov_br {A B : Prop} (x : Bool) (f : x = false → A) (g : x = true → B) : (ov_bI x = 0 → A) ∧ (¬ ov_bI x = 0 → B) := by
  cases x
  · exact ⟨fun _ => f rfl, fun h => absurd rfl h⟩
  · exact ⟨fun h => absurd h (by decide), fun _ => g rfl⟩
