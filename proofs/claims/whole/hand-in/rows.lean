section
theorem pk_us {f : Nat → Int32} {k : Nat} {x : Int32} : upd f k x k = x := if_pos rfl
theorem pk_un {f : Nat → Int32} {k j : Nat} {x : Int32} (h : j ≠ k) : upd f k x j = f j := if_neg h
theorem pk_uLs {f : Nat → Int64} {k : Nat} {x : Int64} : vp_updL f k x k = x := if_pos rfl
theorem pk_uLn {f : Nat → Int64} {k j : Nat} {x : Int64} (h : j ≠ k) : vp_updL f k x j = f j := if_neg h
theorem pk_sub {a b : Nat} (h : b ≤ a) : nI a - nI b = nI (a - b) := by
  obtain ⟨c, rfl⟩ : ∃ c, a = c + b := ⟨a - b, by omega⟩
  rw [← nI_add, Int32.add_sub_cancel, Nat.add_sub_cancel]
theorem pk_m1 (n : Nat) : nI (n + 1) + (-1) = nI n := by
  rw [← nI_1, Int32.add_assoc, show (1 : Int32) + (-1) = 0 from rfl, Int32.add_zero]
theorem pk_mul (a b : Nat) : nI a * nI b = nI (a * b) := (Int32.ofNat_mul a b).symm
theorem pk_div {a d : Nat} (ha : a < 2 ^ 31) (h0 : 0 < d) (hd : d < 2 ^ 31) : nI a / nI d = nI (a / d) := by
  apply Int32.toInt_inj.mp
  rw [lg_idiv_nonneg (by rw [nI_toInt ha]; omega) (by rw [nI_toInt hd]; omega), nI_toInt ha, nI_toInt hd, nI_toInt (Nat.lt_of_le_of_lt (Nat.div_le_self a d) ha)]
  first | rfl | exact (Int.natCast_ediv _ _).symm
theorem pk_rem {a d : Nat} (ha : a < 2 ^ 31) (h0 : 0 < d) (hd : d < 2 ^ 31) : nI a - nI a / nI d * nI d = nI (a % d) := by
  rw [pk_div ha h0 hd, pk_mul, pk_sub (Nat.div_mul_le_self a d)]
  exact congrArg nI (by have := Nat.div_add_mod' a d; omega)
theorem pk_sub_toInt {a b : Nat} (ha : a < 2 ^ 30) (hb : b < 2 ^ 30) : (nI a - nI b).toInt = (a : Int) - b := by
  rw [Int32.toInt_sub, nI_toInt (by omega), nI_toInt (by omega)]
  exact Int.bmod_eq_of_le (by omega) (by omega)
theorem pk_sneg {a b : Nat} (hb : b < 2 ^ 30) (h : a < b) : nI a - nI b < 0 := by
  rw [Int32.lt_iff_toInt_lt, pk_sub_toInt (by omega) hb, show (0 : Int32).toInt = 0 from by decide]
  omega
theorem pk_ix (x : Int32) {n : Nat} (hn : n < 2 ^ 31) : x < 0 ∨ nI n ≤ x ∨ ∃ j : Nat, j < n ∧ x = nI j := by
  by_cases h : x < 0
  · exact Or.inl h
  · obtain ⟨j, hj, rfl⟩ := nI_of h
    by_cases h2 : j < n
    · exact Or.inr (Or.inr ⟨j, h2, rfl⟩)
    · exact Or.inr (Or.inl (nI_le (by omega) hj))
theorem pk_le {x y : Int32} {A B : Prop} (a b : Nat) (f : a ≤ b → A) (g : b < a → B) (hx : x = nI a := by rfl) (hy : y = nI b := by rfl) (ha : a < 2 ^ 31 := by omega) (hb : b < 2 ^ 31 := by omega) : (x ≤ y → A) ∧ (¬ x ≤ y → B) := by
  subst hx hy
  rw [nI_leI ha hb]
  exact ⟨f, fun z => g (by omega)⟩
theorem pk_lt {x y : Int32} {A B : Prop} (a b : Nat) (f : a < b → A) (g : b ≤ a → B) (hx : x = nI a := by rfl) (hy : y = nI b := by rfl) (ha : a < 2 ^ 31 := by omega) (hb : b < 2 ^ 31 := by omega) : (x < y → A) ∧ (¬ x < y → B) := by
  subst hx hy
  rw [nI_ltI ha hb]
  exact ⟨f, fun z => g (by omega)⟩
theorem pk_eq {x y : Int32} {A B : Prop} (a b : Nat) (f : a = b → A) (g : a ≠ b → B) (hx : x = nI a := by rfl) (hy : y = nI b := by rfl) (ha : a < 2 ^ 31 := by omega) (hb : b < 2 ^ 31 := by omega) : (x = y → A) ∧ (¬ x = y → B) := by
  subst hx hy
  rw [nI_eq ha hb]
  exact ⟨f, g⟩
theorem pk_in {x : Int32} (n N : Nat) (h : n < N) (hx : x = nI n := by rfl) (hN : N < 2 ^ 31 := by omega) : vp_in x N := by
  subst hx
  exact vp_in_nI h hN
theorem pk_cl {x : Int32} (n : Nat) (hx : x = nI n := by rfl) (h : n < 2 ^ 31 := by omega) : x.toNatClampNeg = n := by
  subst hx
  exact nI_clamp h
theorem pk_tn {n : Nat} (h : n < 2 ^ 32) : (nI n).toBitVec.toNat = n := Nat.mod_eq_of_lt h
theorem pk_and (x : Int32) {m : Int32} (k : Nat) (hm : m.toBitVec.toNat = 2 ^ k - 1) : x &&& m = nI (x.toBitVec.toNat % 2 ^ k) := by
  apply Int32.toBitVec_inj.mp
  apply BitVec.eq_of_toNat_eq
  rw [Int32.toBitVec_and, BitVec.toNat_and, hm, Nat.and_two_pow_sub_one_eq_mod]
  show _ = (BitVec.ofNat 32 _).toNat
  rw [BitVec.toNat_ofNat]
  exact (Nat.mod_eq_of_lt (Nat.lt_of_le_of_lt (Nat.mod_le _ _) x.toBitVec.isLt)).symm
theorem pk_andN {n : Nat} (h : n < 2 ^ 32) {m : Int32} (k : Nat) (hm : m.toBitVec.toNat = 2 ^ k - 1) : nI n &&& m = nI (n % 2 ^ k) := by
  rw [pk_and _ k hm, pk_tn h]
theorem pk_andE (x : Int32) {m : Int32} (k : Nat) (hm : m.toBitVec.toNat = 2 ^ k - 1) : ∃ j : Nat, j < 2 ^ k ∧ x &&& m = nI j := ⟨_, Nat.mod_lt _ (Nat.two_pow_pos k), pk_and x k hm⟩
theorem pk_andIn (x : Int32) {m : Int32} (k : Nat) (hm : m.toBitVec.toNat = 2 ^ k - 1) (hk : k ≤ 30) : vp_in (x &&& m) (2 ^ k) := by
  obtain ⟨j, hj, e⟩ := pk_andE x k hm
  rw [e]
  exact vp_in_nI hj (Nat.lt_of_le_of_lt (Nat.pow_le_pow_right (by decide) hk) (by decide))
theorem pk_shl (a s : Int32) (k : Nat) (hs : (s.toBitVec.smod 32).toNat = k) : (a <<< s).toBitVec.toNat = a.toBitVec.toNat * 2 ^ k % 2 ^ 32 := by
  show (a.toBitVec <<< (s.toBitVec.smod 32).toNat).toNat = _
  rw [hs, BitVec.toNat_shiftLeft, Nat.shiftLeft_eq]
theorem pk_shlN {n : Nat} (s : Int32) (k : Nat) (hs : (s.toBitVec.smod 32).toNat = k) (h : n * 2 ^ k < 2 ^ 32) : nI n <<< s = nI (n * 2 ^ k) := by
  apply Int32.toBitVec_inj.mp
  apply BitVec.eq_of_toNat_eq
  have hn : n < 2 ^ 32 := Nat.lt_of_le_of_lt (Nat.le_mul_of_pos_right n (Nat.two_pow_pos k)) h
  rw [pk_shl _ _ k hs, pk_tn hn, pk_tn h, Nat.mod_eq_of_lt h]
theorem pk_shr (a s : Int32) (k : Nat) (hs : (s.toBitVec.smod 32).toNat = k) : (a >>> s).toInt = a.toInt >>> k := by
  show (a.toBitVec.sshiftRight (s.toBitVec.smod 32).toNat).toInt = _
  rw [hs, BitVec.toInt_sshiftRight]
  rfl
theorem pk_shrN {n : Nat} (h : n < 2 ^ 31) (s : Int32) (k : Nat) (hs : (s.toBitVec.smod 32).toNat = k) : nI n >>> s = nI (n / 2 ^ k) := by
  apply Int32.toInt_inj.mp
  have h2 : n / 2 ^ k ≤ n := Nat.div_le_self _ _
  rw [pk_shr _ _ k hs, nI_toInt h, nI_toInt (by omega), Int.shiftRight_eq_div_pow]
  rfl
end
section
/-! the pure picture: loops over a counter as any, all, count, first; digits, satisfies, within, follows, prime -/
def ov_an (p : Nat → Bool) : Nat → Nat → Bool
  | 0, _ => false
  | d + 1, v => p v || ov_an p d (v + 1)
def ov_al (p : Nat → Bool) : Nat → Nat → Bool
  | 0, _ => true
  | d + 1, v => p v && ov_al p d (v + 1)
def ov_cn (p : Nat → Bool) : Nat → Nat → Nat
  | 0, _ => 0
  | d + 1, v => (if p v = true then 1 else 0) + ov_cn p d (v + 1)
def ov_kp (k : Int32) (p : Nat → Bool) : Nat → Nat → Nat → Int32
  | 0, _, _ => -2
  | d + 1, v, b => if p v = true then (if nI b = k then nI v else ov_kp k p d (v + 1) (b + 1)) else ov_kp k p d (v + 1) b
def ov_ff (p : Nat → Bool) : Nat → Nat → Int32
  | 0, _ => -2
  | d + 1, v => if p v = true then nI v else ov_ff p d (v + 1)
def ov_bI (x : Bool) : Int32 := if x = true then 1 else 0
theorem ov_al_iff (p : Nat → Bool) : ∀ d v, ov_al p d v = true ↔ ∀ w, v ≤ w → w < v + d → p w = true := by
  intro d
  induction d with
  | zero => intro v; exact ⟨fun _ w h1 h2 => absurd h2 (by omega), fun _ => rfl⟩
  | succ d ih =>
    intro v
    show (p v && ov_al p d (v + 1)) = true ↔ _
    rw [Bool.and_eq_true, ih]
    constructor
    · intro h w h1 h2
      rcases Nat.eq_or_lt_of_le h1 with e | e
      · rw [← e]; exact h.1
      · exact h.2 w e (by omega)
    · intro h
      exact ⟨h v (Nat.le_refl v) (by omega), fun w h1 h2 => h w (by omega) (by omega)⟩
theorem ov_an_iff (p : Nat → Bool) : ∀ d v, ov_an p d v = true ↔ ∃ w, v ≤ w ∧ w < v + d ∧ p w = true := by
  intro d
  induction d with
  | zero => intro v; exact ⟨fun h => absurd h (show ¬ false = true by decide), fun ⟨w, h1, h2, _⟩ => absurd h2 (by omega)⟩
  | succ d ih =>
    intro v
    show (p v || ov_an p d (v + 1)) = true ↔ _
    rw [Bool.or_eq_true, ih]
    constructor
    · intro h
      rcases h with h | ⟨w, h1, h2, h3⟩
      · exact ⟨v, Nat.le_refl v, by omega, h⟩
      · exact ⟨w, by omega, by omega, h3⟩
    · intro ⟨w, h1, h2, h3⟩
      rcases Nat.eq_or_lt_of_le h1 with e | e
      · exact Or.inl (by rw [e]; exact h3)
      · exact Or.inr ⟨w, e, by omega, h3⟩
theorem ov_al0 (p : Nat → Bool) (n : Nat) : ov_al p n 0 = true ↔ ∀ w, w < n → p w = true := by
  rw [ov_al_iff]
  exact ⟨fun h w hw => h w (Nat.zero_le _) (by omega), fun h w _ hw => h w (by omega)⟩
theorem ov_an0 (p : Nat → Bool) (n : Nat) : ov_an p n 0 = true ↔ ∃ w, w < n ∧ p w = true := by
  rw [ov_an_iff]
  exact ⟨fun ⟨w, _, h, h'⟩ => ⟨w, by omega, h'⟩, fun ⟨w, h, h'⟩ => ⟨w, Nat.zero_le _, by omega, h'⟩⟩
theorem ov_al_sn (p : Nat → Bool) (d : Nat) : ov_al p (d + 1) 0 = (ov_al p d 0 && p d) := by
  rw [Bool.eq_iff_iff, Bool.and_eq_true, ov_al0, ov_al0]
  constructor
  · intro h
    exact ⟨fun w hw => h w (by omega), h d (by omega)⟩
  · intro h w hw
    rcases Nat.eq_or_lt_of_le (Nat.le_of_lt_succ hw) with e | e
    · rw [e]; exact h.2
    · exact h.1 w e
theorem ov_an_sn (p : Nat → Bool) (d : Nat) : ov_an p (d + 1) 0 = (ov_an p d 0 || p d) := by
  rw [Bool.eq_iff_iff, Bool.or_eq_true, ov_an0, ov_an0]
  constructor
  · intro ⟨w, hw, h⟩
    rcases Nat.eq_or_lt_of_le (Nat.le_of_lt_succ hw) with e | e
    · exact Or.inr (by rw [← e]; exact h)
    · exact Or.inl ⟨w, e, h⟩
  · intro h
    rcases h with ⟨w, hw, h⟩ | h
    · exact ⟨w, by omega, h⟩
    · exact ⟨d, by omega, h⟩
theorem ov_al_cg {p q : Nat → Bool} {n : Nat} (h : ∀ w, w < n → p w = q w) : ov_al p n 0 = ov_al q n 0 := by
  rw [Bool.eq_iff_iff, ov_al0, ov_al0]
  exact ⟨fun g w hw => by rw [← h w hw]; exact g w hw, fun g w hw => by rw [h w hw]; exact g w hw⟩
theorem ov_cn_cg {p q : Nat → Bool} : ∀ d v, (∀ w, v ≤ w → w < v + d → p w = q w) → ov_cn p d v = ov_cn q d v := by
  intro d
  induction d with
  | zero => intro v _; rfl
  | succ d ih =>
    intro v h
    show (if p v = true then 1 else 0) + ov_cn p d (v + 1) = (if q v = true then 1 else 0) + ov_cn q d (v + 1)
    rw [h v (Nat.le_refl v) (by omega), ih (v + 1) (fun w h1 h2 => h w (by omega) (by omega))]
theorem ov_cn_sn (p : Nat → Bool) : ∀ d v, ov_cn p (d + 1) v = ov_cn p d v + (if p (v + d) = true then 1 else 0) := by
  intro d
  induction d with
  | zero => intro v; show (if p v = true then 1 else 0) + 0 = 0 + (if p v = true then 1 else 0); omega
  | succ d ih =>
    intro v
    show (if p v = true then 1 else 0) + ov_cn p (d + 1) (v + 1) = ((if p v = true then 1 else 0) + ov_cn p d (v + 1)) + _
    rw [ih (v + 1), show v + 1 + d = v + (d + 1) by omega]
    omega
theorem ov_cn_or (f P : Nat → Bool) (x : Nat) (hx : f x = false) : ∀ d v, v ≤ x → x < v + d → ov_cn (fun c => (f c || decide (x = c)) && P c) d v = ov_cn (fun c => f c && P c) d v + (if P x = true then 1 else 0) := by
  intro d
  induction d with
  | zero => intro v h1 h2; exact absurd h2 (by omega)
  | succ d ih =>
    intro v h1 h2
    show (if ((f v || decide (x = v)) && P v) = true then 1 else 0) + ov_cn (fun c => (f c || decide (x = c)) && P c) d (v + 1) = ((if (f v && P v) = true then 1 else 0) + ov_cn (fun c => f c && P c) d (v + 1)) + _
    rcases Nat.eq_or_lt_of_le h1 with e | e
    · have hc : ov_cn (fun c => (f c || decide (x = c)) && P c) d (v + 1) = ov_cn (fun c => f c && P c) d (v + 1) := by
        apply ov_cn_cg
        intro w g1 g2
        show ((f w || decide (x = w)) && P w) = (f w && P w)
        rw [decide_eq_false (show ¬ x = w by omega), Bool.or_false]
      rw [hc, e, hx, decide_eq_true rfl, Bool.false_or, Bool.true_and, Bool.false_and]
      simp only [Bool.false_eq_true, if_false]
      omega
    · rw [ih (v + 1) e (by omega), decide_eq_false (show ¬ x = v by omega), Bool.or_false]
      omega
theorem ov_cn_sw (P : Nat → Bool) (b : Nat → Nat) (M : Nat) : ∀ s, (∀ i, i < s → b i < M) → (∀ i j, i < s → j < s → b i = b j → i = j) → ov_cn (fun i => P (b i)) s 0 = ov_cn (fun c => ov_an (fun i => decide (b i = c)) s 0 && P c) M 0 := by
  intro s
  induction s with
  | zero =>
    intro _ _
    have : ∀ d v, ov_cn (fun c => ov_an (fun i => decide (b i = c)) 0 0 && P c) d v = 0 := by
      intro d
      induction d with
      | zero => intro v; rfl
      | succ d ih => intro v; show 0 + _ = 0; rw [ih (v + 1)]
    rw [this M 0]
    rfl
  | succ s ih =>
    intro h1 h2
    rw [ov_cn_sn, ih (fun i hi => h1 i (by omega)) (fun i j hi hj => h2 i j (by omega) (by omega))]
    have hf : ov_an (fun i => decide (b i = b s)) s 0 = false := by
      rw [Bool.eq_false_iff]
      intro g
      obtain ⟨w, hw, e⟩ := (ov_an0 _ _).mp g
      exact absurd (h2 w s (by omega) (by omega) (of_decide_eq_true e)) (by omega)
    have := ov_cn_or (fun c => ov_an (fun i => decide (b i = c)) s 0) P (b s) hf M 0 (Nat.zero_le _) (by have := h1 s (by omega); omega)
    rw [Nat.zero_add, ← this]
    apply ov_cn_cg
    intro w _ _
    show ((ov_an (fun i => decide (b i = w)) s 0 || decide (b s = w)) && P w) = (ov_an (fun i => decide (b i = w)) (s + 1) 0 && P w)
    rw [ov_an_sn]
theorem ov_kp_neg {k : Int32} (hk : k < 0) (p : Nat → Bool) : ∀ d v b, b + d < 2 ^ 31 → ov_kp k p d v b = -2 := by
  intro d
  induction d with
  | zero => intro v b _; rfl
  | succ d ih =>
    intro v b hb
    have hn : ¬ nI b = k := fun e => nI_pos (show b < 2 ^ 31 by omega) (e ▸ hk)
    show (if p v = true then (if nI b = k then nI v else ov_kp k p d (v + 1) (b + 1)) else ov_kp k p d (v + 1) b) = -2
    rw [if_neg hn, ih (v + 1) (b + 1) (by omega), ih (v + 1) b (by omega), ite_self]
theorem ov_kp_cg {k : Int32} {p q : Nat → Bool} : ∀ d v b, (∀ w, v ≤ w → w < v + d → p w = q w) → ov_kp k p d v b = ov_kp k q d v b := by
  intro d
  induction d with
  | zero => intro v b _; rfl
  | succ d ih =>
    intro v b h
    show (if p v = true then (if nI b = k then nI v else ov_kp k p d (v + 1) (b + 1)) else ov_kp k p d (v + 1) b) = (if q v = true then (if nI b = k then nI v else ov_kp k q d (v + 1) (b + 1)) else ov_kp k q d (v + 1) b)
    rw [h v (Nat.le_refl v) (by omega), ih (v + 1) (b + 1) (fun w h1 h2 => h w (by omega) (by omega)), ih (v + 1) b (fun w h1 h2 => h w (by omega) (by omega))]
theorem ov_ff_cg {p q : Nat → Bool} : ∀ d v, (∀ w, v ≤ w → w < v + d → p w = q w) → ov_ff p d v = ov_ff q d v := by
  intro d
  induction d with
  | zero => intro v _; rfl
  | succ d ih =>
    intro v h
    show (if p v = true then nI v else ov_ff p d (v + 1)) = (if q v = true then nI v else ov_ff q d (v + 1))
    rw [h v (Nat.le_refl v) (by omega), ih (v + 1) (fun w h1 h2 => h w (by omega) (by omega))]
def ov_sp (a c v : Nat) : Bool := decide (c / 3 ^ v % 3 = if a / 2 ^ v % 2 = 1 then 1 else 2)
def ov_zs (N a c : Nat) : Bool := ov_an (ov_sp a c) N 0
def ov_wp (d c v : Nat) : Bool := decide (d / 3 ^ v % 3 = 0) || decide (d / 3 ^ v % 3 = c / 3 ^ v % 3)
def ov_zw (N d c : Nat) : Bool := ov_al (ov_wp d c) N 0
def ov_fl (N : Nat) (M : Nat → Bool) (c : Nat) : Bool := ov_al (fun j => !M j || ov_zs N j c) (2 ^ N) 0
def ov_pr (N : Nat) (M : Nat → Bool) (c : Nat) : Bool := ov_fl N M c && ov_al (fun d => decide (d = c) || (!ov_fl N M d || !ov_zw N d c)) (3 ^ N) 0
def ov_px (N : Nat) (M : Nat → Bool) (c : Nat) : Bool := ov_fl N M c && ov_al (fun v => decide (c / 3 ^ v % 3 = 0) || !ov_fl N M (c - c / 3 ^ v % 3 * 3 ^ v)) N 0
theorem ov_dgt : ∀ c, c < 243 → ∀ v, v < 5 → ∀ w, w < 5 → (c - c / 3 ^ v % 3 * 3 ^ v) / 3 ^ w % 3 = if w = v then 0 else c / 3 ^ w % 3 := by decide +kernel
theorem ov_dle (c v : Nat) : c / 3 ^ v % 3 * 3 ^ v ≤ c := Nat.le_trans (Nat.mul_le_mul_right _ (Nat.mod_le _ _)) (Nat.div_mul_le_self c (3 ^ v))
theorem ov_ext : ∀ N c d, c < 3 ^ N → d < 3 ^ N → (∀ v, v < N → c / 3 ^ v % 3 = d / 3 ^ v % 3) → c = d := by
  intro N
  induction N with
  | zero => intro c d hc hd _; rw [Nat.pow_zero] at hc hd; omega
  | succ N ih =>
    intro c d hc hd h
    rw [Nat.pow_succ] at hc hd
    have h0 := h 0 (by omega)
    rw [Nat.pow_zero, Nat.div_one, Nat.div_one] at h0
    have h1 : c / 3 = d / 3 := by
      apply ih (c / 3) (d / 3) (by omega) (by omega)
      intro v hv
      have := h (v + 1) (by omega)
      rw [Nat.pow_succ', ← Nat.div_div_eq_div_mul, ← Nat.div_div_eq_div_mul] at this
      exact this
    omega
theorem ov_p3 {N : Nat} (h : N ≤ 5) : 3 ^ N ≤ 243 := Nat.pow_le_pow_right (n := 3) (by decide) h
theorem ov_p2 {N : Nat} (h : N ≤ 5) : 2 ^ N ≤ 32 := Nat.pow_le_pow_right (n := 2) (by decide) h
theorem ov_zs_mono {N a d c : Nat} (h : ∀ v, v < N → d / 3 ^ v % 3 = 0 ∨ d / 3 ^ v % 3 = c / 3 ^ v % 3) (hs : ov_zs N a d = true) : ov_zs N a c = true := by
  obtain ⟨v, hv, e⟩ := (ov_an0 _ _).mp hs
  have e' : d / 3 ^ v % 3 = if a / 2 ^ v % 2 = 1 then 1 else 2 := of_decide_eq_true e
  refine (ov_an0 _ _).mpr ⟨v, hv, decide_eq_true ?_⟩
  rcases h v hv with g | g
  · exfalso
    rw [g] at e'
    split at e' <;> omega
  · rw [← g]; exact e'
theorem ov_fl_iff (N : Nat) (M : Nat → Bool) (c : Nat) : ov_fl N M c = true ↔ ∀ j, j < 2 ^ N → M j = true → ov_zs N j c = true := by
  unfold ov_fl
  rw [ov_al0]
  constructor
  · intro h j hj hm
    have := h j hj
    rw [hm] at this
    exact this
  · intro h j hj
    show (!M j || ov_zs N j c) = true
    cases hm : M j with
    | false => rfl
    | true => exact h j hj hm
theorem ov_fl_mono {N : Nat} {M : Nat → Bool} {d c : Nat} (h : ∀ v, v < N → d / 3 ^ v % 3 = 0 ∨ d / 3 ^ v % 3 = c / 3 ^ v % 3) (hs : ov_fl N M d = true) : ov_fl N M c = true :=
  (ov_fl_iff _ _ _).mpr fun j hj hm => ov_zs_mono h ((ov_fl_iff _ _ _).mp hs j hj hm)
theorem ov_zw_iff (N d c : Nat) : ov_zw N d c = true ↔ ∀ v, v < N → d / 3 ^ v % 3 = 0 ∨ d / 3 ^ v % 3 = c / 3 ^ v % 3 := by
  unfold ov_zw ov_wp
  rw [ov_al0]
  simp only [Bool.or_eq_true, decide_eq_true_eq]
theorem ov_pr_iff (N : Nat) (M : Nat → Bool) (c : Nat) : ov_pr N M c = true ↔ ov_fl N M c = true ∧ ∀ d, d < 3 ^ N → d ≠ c → ov_fl N M d = true → ov_zw N d c = true → False := by
  unfold ov_pr
  rw [Bool.and_eq_true, ov_al0]
  refine and_congr_right fun _ => forall_congr' fun d => forall_congr' fun _ => ?_
  by_cases e : d = c <;> cases ov_fl N M d <;> cases ov_zw N d c <;> simp [e]
theorem ov_px_iff (N : Nat) (M : Nat → Bool) (c : Nat) : ov_px N M c = true ↔ ov_fl N M c = true ∧ ∀ v, v < N → c / 3 ^ v % 3 ≠ 0 → ov_fl N M (c - c / 3 ^ v % 3 * 3 ^ v) = true → False := by
  unfold ov_px
  rw [Bool.and_eq_true, ov_al0]
  refine and_congr_right fun _ => forall_congr' fun v => forall_congr' fun _ => ?_
  by_cases e : c / 3 ^ v % 3 = 0 <;> cases ov_fl N M (c - c / 3 ^ v % 3 * 3 ^ v) <;> simp [e]
theorem ov_px_pr {N : Nat} (hN : N ≤ 5) (M : Nat → Bool) {c : Nat} (hc : c < 3 ^ N) : ov_px N M c = ov_pr N M c := by
  have h3 := ov_p3 hN
  rw [Bool.eq_iff_iff, ov_px_iff, ov_pr_iff]
  refine and_congr_right fun hf => ⟨fun h d hd hne hfd hw => ?_, fun h v hv hdg hfd => ?_⟩
  · have hw' := (ov_zw_iff _ _ _).mp hw
    have : ¬ ∀ v, v < N → d / 3 ^ v % 3 = c / 3 ^ v % 3 := fun g => hne (ov_ext N d c hd hc g)
    obtain ⟨v, hv⟩ := Classical.not_forall.mp this
    obtain ⟨hv, hv2⟩ := Classical.not_imp.mp hv
    have hz : d / 3 ^ v % 3 = 0 := (hw' v hv).resolve_right hv2
    refine h v hv (fun g => hv2 (by rw [hz, g])) (ov_fl_mono (d := d) (fun w hw => ?_) hfd)
    rw [ov_dgt c (by omega) v (by omega) w (by omega)]
    by_cases e : w = v
    · rw [e]; exact Or.inl hz
    · rw [if_neg e]; exact hw' w hw
  · have hle := ov_dle c v
    have hp : 0 < c / 3 ^ v % 3 * 3 ^ v := Nat.mul_pos (Nat.pos_of_ne_zero hdg) (Nat.pow_pos (by decide))
    refine h (c - c / 3 ^ v % 3 * 3 ^ v) (by omega) (by omega) hfd ((ov_zw_iff _ _ _).mpr fun w hw => ?_)
    rw [ov_dgt c (by omega) v (by omega) w (by omega)]
    by_cases e : w = v
    · rw [if_pos e]; exact Or.inl rfl
    · rw [if_neg e]; exact Or.inr rfl
end
section
theorem wb_tb (n : Nat) : (lN n).toBitVec = BitVec.ofNat 64 n := rfl
theorem wb_inj {a b : Int64} (h : a.toBitVec = b.toBitVec) : a = b := Int64.toBitVec_inj.mp h
theorem wb_c : ∀ k, k < 64 → ((nI k).toInt64 &&& 63) = lN k := by decide +kernel
theorem wb_sm : ∀ k, k < 64 → (BitVec.ofNat 64 k).smod 64 = BitVec.ofNat 64 k := by decide +kernel
theorem s_l : ∀ n, n < 32 → ((nI n &&& 31).toBitVec.smod 32).toNat = n := by decide +kernel
/-! one bit of a long -/
def ov_b (x : Int64) (j : Nat) : Bool := x.toBitVec.getLsbD j
theorem ov_bx {x y : Int64} (h : ∀ j, j < 64 → ov_b x j = ov_b y j) : x = y := wb_inj (BitVec.eq_of_getLsbD_eq (fun i hi => h i hi))
theorem ov_b_and (x y : Int64) (j : Nat) : ov_b (x &&& y) j = (ov_b x j && ov_b y j) := by
  unfold ov_b
  rw [Int64.toBitVec_and, BitVec.getLsbD_and]
theorem ov_b_or (x y : Int64) (j : Nat) : ov_b (x ||| y) j = (ov_b x j || ov_b y j) := by
  unfold ov_b
  rw [Int64.toBitVec_or, BitVec.getLsbD_or]
theorem ov_b_not (x : Int64) {j : Nat} (hj : j < 64) : ov_b (x ^^^ (-1)) j = !ov_b x j := by
  have ha : (-1 : Int64).toBitVec = BitVec.allOnes 64 := by decide
  unfold ov_b
  rw [Int64.toBitVec_xor, BitVec.getLsbD_xor, ha, BitVec.getLsbD_allOnes, decide_eq_true hj, Bool.xor_true]
theorem ov_b_0 (j : Nat) : ov_b 0 j = false := by
  unfold ov_b
  exact BitVec.getLsbD_zero
theorem ov_b_z (x : Int64) : x = 0 ↔ ∀ j, j < 64 → ov_b x j = false :=
  ⟨fun e j _ => by rw [e, ov_b_0], fun h => ov_bx fun j hj => by rw [h j hj, ov_b_0]⟩
theorem ov_b_shl : ∀ a, a < 32 → ∀ j, j < 64 → ov_b ((1 : Int64) <<< ((nI a).toInt64 &&& 63)) j = decide (j = a) := by decide +kernel
theorem ov_b_full : ∀ N, N < 6 → ∀ j, j < 64 → ov_b (((1 : Int64) <<< ((nI (2 ^ N)).toInt64 &&& 63)) - 1) j = decide (j < 2 ^ N) := by decide +kernel
theorem ov_b_con (S : Int64) {a : Nat} (ha : a < 64) : ((S >>> ((nI a).toInt64 &&& 63)) &&& 1) = 1 ↔ ov_b S a = true := by
  rw [wb_c a ha, ← Int64.toBitVec_inj, Int64.toBitVec_and, Int64.toBitVec_shiftRight, wb_tb]
  show (S.toBitVec.sshiftRight ((BitVec.ofNat 64 a).smod 64).toNat &&& 1#64) = 1#64 ↔ _
  rw [wb_sm a ha, BitVec.toNat_ofNat, Nat.mod_eq_of_lt (show a < 2 ^ 64 by omega)]
  unfold ov_b
  constructor
  · intro h
    have t := congrArg (fun x => x.getLsbD 0) h
    simp only [BitVec.getLsbD_and, BitVec.getLsbD_sshiftRight] at t
    simpa [ha] using t
  · intro h
    apply BitVec.eq_of_getLsbD_eq
    intro i hi
    rw [BitVec.getLsbD_and, BitVec.getLsbD_sshiftRight]
    cases i with
    | zero => simp [ha, h]
    | succ i => simp
theorem ov_sh1 : ∀ N, N < 6 → (1 : Int32) <<< (nI N &&& 31) = nI (2 ^ N) := by decide +kernel
theorem ov_t : vp_nar .boolean 1 = 1 := by decide
theorem ov_f : vp_nar .boolean 0 = 0 := by decide
theorem ov_nt : narrow .boolean (.int 1) = .int 1 := by decide
theorem ov_nf : narrow .boolean (.int 0) = .int 0 := by decide
theorem ov_nb (x : Bool) : narrow .boolean (.int (ov_bI x)) = .int (ov_bI x) := by
  cases x
  · exact ov_nf
  · exact ov_nt
theorem ov_vb (x : Bool) : vp_nar .boolean (ov_bI x) = ov_bI x := by
  cases x
  · exact ov_f
  · exact ov_t
theorem ov_bI0 (x : Bool) : ov_bI x = 0 ↔ x = false := by cases x <;> decide
theorem ov_br {A B : Prop} (x : Bool) (f : x = false → A) (g : x = true → B) : (ov_bI x = 0 → A) ∧ (¬ ov_bI x = 0 → B) := by
  cases x
  · exact ⟨fun _ => f rfl, fun h => absurd rfl h⟩
  · exact ⟨fun h => absurd h (by decide), fun _ => g rfl⟩
end
section
/-! the component: power, satisfies, within -/
theorem ov_xpow (post : Int32 → Prop) (b N : Nat) (hN : N ≤ 5) : ∀ d v r, v + d = N → post (nI (r * b ^ d)) → wX_power_4 post (nI b) (nI N) (d + 1) (nI r) (nI v) := by
  intro d
  induction d with
  | zero =>
    intro v r hv hp
    rw [Nat.pow_zero, Nat.mul_one] at hp
    exact br_t (nI_le (by omega) (by omega)) hp
  | succ d ih =>
    intro v r hv hp
    refine br_f (nI_ge (by omega) (by omega)) (nm_r (pk_mul r b) (nm_r (nI_1 v) (ih (v + 1) (r * b) (by omega) ?_)))
    rw [Nat.mul_assoc, ← Nat.pow_succ']
    exact hp
theorem ov_x30 (post : Int32 → Prop) (J8 : Int32 → Int32 → Int32 → Prop) (c a v z : Nat) (w : Int32) (hw : w = nI z) (hc : c < 2 ^ 31) (ha : a < 2 ^ 31) (hz : z < 3) (fv fc fa fb : Int32) (fal : Nat → Int64) (inb : Nat → Int32) (h1 : c % 3 = z → post 1) (h2 : c % 3 ≠ z → J8 (nI (c / 3)) (nI (a / 2)) (nI (v + 1))) : wX_satisfies_30 post J8 (nI c) (nI a) (nI v) w fv fc fa fb fal inb := by
  subst hw
  exact ⟨by decide, pk_eq (c % 3) z h1 (fun g => ⟨by decide, nm_r (pk_div (d := 3) hc (by decide) (by decide)) (nm_r (pk_shrN ha _ 1 (by decide)) (nm_r (nI_1 v) (h2 g)))⟩) (pk_rem (d := 3) hc (by decide) (by decide)) rfl⟩
theorem ov_dv3 (c v : Nat) : c / 3 ^ v / 3 = c / 3 ^ (v + 1) := by rw [Nat.div_div_eq_div_mul, Nat.pow_succ]
theorem ov_dv2 (c v : Nat) : c / 2 ^ v / 2 = c / 2 ^ (v + 1) := by rw [Nat.div_div_eq_div_mul, Nat.pow_succ]
theorem ov_xsat8 (post : Int32 → Prop) (N : Nat) (hN : N ≤ 5) (fc fa fb : Int32) (fal : Nat → Int64) (inb : Nat → Int32) (a c : Nat) (ha : a < 2 ^ 31) (hc : c < 2 ^ 31) : ∀ d v, v + d = N → post (ov_bI (ov_an (ov_sp a c) d v)) → wX_satisfies_8 post (nI N) fc fa fb fal inb (d + 1) (nI (c / 3 ^ v)) (nI (a / 2 ^ v)) (nI v) := by
  intro d
  induction d with
  | zero =>
    intro v hv hp
    exact br_t (nI_le (by omega) (by omega)) hp
  | succ d ih =>
    intro v hv hp
    have hc' : c / 3 ^ v < 2 ^ 31 := Nat.lt_of_le_of_lt (Nat.div_le_self _ _) hc
    have ha' : a / 2 ^ v < 2 ^ 31 := Nat.lt_of_le_of_lt (Nat.div_le_self _ _) ha
    have key : ∀ z : Nat, z < 3 → ∀ w : Int32, w = nI z → (z = if a / 2 ^ v % 2 = 1 then 1 else 2) → wX_satisfies_30 post (wX_satisfies_8 post (nI N) fc fa fb fal inb (d + 1)) (nI (c / 3 ^ v)) (nI (a / 2 ^ v)) (nI v) w (nI N) fc fa fb fal inb := by
      intro z hz w hw e
      refine ov_x30 post _ (c / 3 ^ v) (a / 2 ^ v) v z w hw hc' ha' hz (nI N) fc fa fb fal inb (fun g => ?_) (fun g => ?_)
      · have : ov_an (ov_sp a c) (d + 1) v = true := by
          show (ov_sp a c v || _) = true
          rw [show ov_sp a c v = true from decide_eq_true (by rw [g, e]), Bool.true_or]
        rw [this] at hp
        exact hp
      · rw [ov_dv3, ov_dv2]
        refine ih (v + 1) (by omega) ?_
        have : ov_an (ov_sp a c) (d + 1) v = ov_an (ov_sp a c) d (v + 1) := by
          show (ov_sp a c v || _) = _
          rw [show ov_sp a c v = false from decide_eq_false (by rw [← e]; exact g), Bool.false_or]
        rw [this] at hp
        exact hp
    refine br_f (nI_ge (by omega) (by omega)) (pk_eq (a / 2 ^ v % 2) 1 (fun g => key 1 (by decide) 1 rfl (by rw [if_pos g])) (fun g => key 2 (by decide) 2 rfl (by rw [if_neg g])) (pk_andN (by omega) 1 (by decide)) rfl (by omega) (by decide))
theorem ov_xsat (post : Int32 → Prop) (N : Nat) (hN : N ≤ 5) (fc fa fb : Int32) (fal : Nat → Int64) (inb : Nat → Int32) (a c : Nat) (ha : a < 2 ^ 31) (hc : c < 2 ^ 31) (hp : post (ov_bI (ov_zs N a c))) : wpX_satisfies post (nI N, fc, fa, fb, fal, inb) (nI a) (nI c) := by
  have := ov_xsat8 post N hN fc fa fb fal inb a c ha hc N 0 (by omega) hp
  rw [Nat.pow_zero, Nat.div_one, Nat.div_one] at this
  exact ⟨N + 1, this⟩
theorem ov_x38 (post : Int32 → Prop) (J8 : Int32 → Int32 → Int32 → Prop) (d c v : Nat) (hd : d < 2 ^ 31) (hc : c < 2 ^ 31) (fv fc fa fb : Int32) (fal : Nat → Int64) (inb : Nat → Int32) (h : J8 (nI (d / 3)) (nI (c / 3)) (nI (v + 1))) : wX_isWithin_38 post J8 (nI d) (nI c) (nI v) fv fc fa fb fal inb :=
  ⟨by decide, nm_r (pk_div (d := 3) hd (by decide) (by decide)) ⟨by decide, nm_r (pk_div (d := 3) hc (by decide) (by decide)) (nm_r (nI_1 v) h)⟩⟩
theorem ov_xw8 (post : Int32 → Prop) (N : Nat) (hN : N ≤ 5) (fc fa fb : Int32) (fal : Nat → Int64) (inb : Nat → Int32) (i o : Nat) (hi : i < 2 ^ 31) (ho : o < 2 ^ 31) : ∀ d v, v + d = N → post (ov_bI (ov_al (ov_wp i o) d v)) → wX_isWithin_8 post (nI N) fc fa fb fal inb (d + 1) (nI (i / 3 ^ v)) (nI (o / 3 ^ v)) (nI v) := by
  intro d
  induction d with
  | zero =>
    intro v hv hp
    exact br_t (nI_le (by omega) (by omega)) hp
  | succ d ih =>
    intro v hv hp
    have hi' : i / 3 ^ v < 2 ^ 31 := Nat.lt_of_le_of_lt (Nat.div_le_self _ _) hi
    have ho' : o / 3 ^ v < 2 ^ 31 := Nat.lt_of_le_of_lt (Nat.div_le_self _ _) ho
    have key : ov_wp i o v = true → wX_isWithin_38 post (wX_isWithin_8 post (nI N) fc fa fb fal inb (d + 1)) (nI (i / 3 ^ v)) (nI (o / 3 ^ v)) (nI v) (nI N) fc fa fb fal inb := by
      intro g
      refine ov_x38 post _ _ _ v hi' ho' (nI N) fc fa fb fal inb ?_
      rw [ov_dv3, ov_dv3]
      refine ih (v + 1) (by omega) ?_
      have : ov_al (ov_wp i o) (d + 1) v = ov_al (ov_wp i o) d (v + 1) := by
        show (ov_wp i o v && _) = _
        rw [g, Bool.true_and]
      rw [this] at hp
      exact hp
    refine br_f (nI_ge (by omega) (by omega)) ⟨by decide, nm_r (pk_rem (d := 3) hi' (by decide) (by decide)) (pk_eq (i / 3 ^ v % 3) 0 (fun g => key ?_) (fun g => ⟨by decide, pk_eq (i / 3 ^ v % 3) (o / 3 ^ v % 3) (fun g2 => key ?_) (fun g2 => ?_) rfl (pk_rem (d := 3) ho' (by decide) (by decide))⟩))⟩
    · unfold ov_wp; rw [decide_eq_true g, Bool.true_or]
    · unfold ov_wp; rw [decide_eq_true g2, Bool.or_true]
    · have : ov_al (ov_wp i o) (d + 1) v = false := by
        show (ov_wp i o v && _) = false
        rw [show ov_wp i o v = false by unfold ov_wp; rw [decide_eq_false g, decide_eq_false g2]; rfl, Bool.false_and]
      rw [this] at hp
      exact hp
theorem ov_xw (post : Int32 → Prop) (N : Nat) (hN : N ≤ 5) (fc fa fb : Int32) (fal : Nat → Int64) (inb : Nat → Int32) (i o : Nat) (hi : i < 2 ^ 31) (ho : o < 2 ^ 31) (hp : post (ov_bI (ov_zw N i o))) : wpX_isWithin post (nI N, fc, fa, fb, fal, inb) (nI i) (nI o) := by
  have := ov_xw8 post N hN fc fa fb fal inb i o hi ho N 0 (by omega) hp
  rw [Nat.pow_zero, Nat.div_one, Nat.div_one] at this
  exact ⟨N + 1, this⟩
end
section
/-! the component: the table of falsifiers, sets of models, follows, prime -/
def ov_Fal (N : Nat) (fal : Nat → Int64) : Prop := ∀ c, c < 3 ^ N → ∀ j, j < 64 → ov_b (fal c) j = (decide (j < 2 ^ N) && !ov_zs N j c)
theorem ov_xf12 (post : SX → Prop) (J2 : Int32 → (Nat → Int64) → (Nat → Int32) → Prop) (N : Nat) (hN : N ≤ 5) (fc fb : Int32) (inb : Nat → Int32) (c : Nat) (hc : c < 243) : ∀ d a fal, a + d = 2 ^ N → (∀ fal', (∀ k, k ≠ c → fal' k = fal k) → (∀ j, j < 64 → ov_b (fal' c) j = (decide (j < 2 ^ N) && !ov_zs N j c)) → J2 (nI (c + 1)) fal' inb) → (∀ j, j < 64 → ov_b (fal c) j = (decide (j < a) && !ov_zs N j c)) → wX_fillFalsifiers_12 post J2 (nI c) (nI N) fc (nI (2 ^ N)) fb (d + 1) (nI a) fal inb := by
  have h2 := ov_p2 hN
  intro d
  induction d with
  | zero =>
    intro a fal ha hJ hb
    refine br_t (nI_le (by omega) (by omega)) (nm_r (nI_1 c) (hJ fal (fun _ _ => rfl) ?_))
    rw [show 2 ^ N = a by omega]
    exact hb
  | succ d ih =>
    intro a fal ha hJ hb
    have ec : (nI c).toNatClampNeg = c := nI_clamp (by omega)
    refine br_f (nI_ge (by omega) (by omega)) (ov_xsat _ N hN fc (nI (2 ^ N)) fb fal inb a c (by omega) (by omega) (ov_br (ov_zs N a c) (fun g => ⟨pk_in c 243 hc, pk_in c 243 hc, nm_r (e' := vp_updL fal c (fal c ||| ((1 : Int64) <<< ((nI a).toInt64 &&& 63)))) (by rw [ec]) (nm_r (nI_1 a) (ih (a + 1) _ (by omega) (fun fal' k1 k2 => hJ fal' (fun k hk => (k1 k hk).trans (pk_uLn hk)) k2) ?_))⟩) (fun g => nm_r (nI_1 a) (ih (a + 1) fal (by omega) hJ ?_))))
    · intro j hj
      rw [pk_uLs, ov_b_or, hb j hj, ov_b_shl a (by omega) j hj]
      by_cases e : j = a
      · rw [e, g, decide_eq_true rfl, decide_eq_true (show a < a + 1 by omega)]
        simp
      · rw [decide_eq_false e, Bool.or_false]
        congr 1
        exact decide_eq_decide.mpr (by omega)
    · intro j hj
      rw [hb j hj]
      by_cases e : j = a
      · rw [e, g]
        simp
      · congr 1
        exact decide_eq_decide.mpr (by omega)
theorem ov_xf2 (post : SX → Prop) (N : Nat) (hN : N ≤ 5) (fb : Int32) (inb : Nat → Int32) (hp : ∀ fal, ov_Fal N fal → post (nI N, nI (3 ^ N), nI (2 ^ N), fb, fal, inb)) : ∀ d c fal, c + d = 3 ^ N → (∀ k, k < c → ∀ j, j < 64 → ov_b (fal k) j = (decide (j < 2 ^ N) && !ov_zs N j k)) → (∀ k, c ≤ k → fal k = 0) → wX_fillFalsifiers_2 post (nI N) (nI (3 ^ N)) (nI (2 ^ N)) fb (d + 1) (nI c) fal inb := by
  have h3 := ov_p3 hN
  intro d
  induction d with
  | zero =>
    intro c fal hc h1 h2
    refine br_t (nI_le (by omega) (by omega)) (hp fal (fun k hk => h1 k (by omega)))
  | succ d ih =>
    intro c fal hc h1 h2
    refine br_f (nI_ge (by omega) (by omega)) ⟨2 ^ N + 1, ov_xf12 post _ N hN (nI (3 ^ N)) fb inb c (by omega) (2 ^ N) 0 fal (by omega) (fun fal' k1 k2 => ih (c + 1) fal' (by omega) (fun k hk => ?_) (fun k hk => (k1 k (by omega)).trans (h2 k (by omega)))) (fun j hj => ?_)⟩
    · rcases Nat.eq_or_lt_of_le (Nat.le_of_lt_succ hk) with e | e
      · rw [e]; exact k2
      · rw [k1 k (by omega)]; exact h1 k e
    · rw [h2 c (Nat.le_refl c), ov_b_0, decide_eq_false (show ¬ j < 0 by omega), Bool.false_and]
theorem ov_xfill (post : SX → Prop) (N : Nat) (hN : N ≤ 5) (fb : Int32) (inb : Nat → Int32) (hp : ∀ fal, ov_Fal N fal → post (nI N, nI (3 ^ N), nI (2 ^ N), fb, fal, inb)) : wpX_fillFalsifiers post (nI N, nI (3 ^ N), nI (2 ^ N), fb, (fun _ => 0), inb) :=
  ⟨3 ^ N + 1, ov_xf2 post N hN fb inb hp (3 ^ N) 0 (fun _ => 0) (by omega) (fun k hk => absurd hk (by omega)) (fun _ _ => rfl)⟩
def ov_mq (N : Nat) (inb : Nat → Int32) (lo : Int32) (j c : Nat) : Bool := decide (inb c = 0) || (decide (nI c = lo) || ov_zs N j c)
def ov_mx (N : Nat) (inb : Nat → Int32) (lo : Int32) (n j : Nat) : Bool := ov_al (ov_mq N inb lo j) n 0
theorem ov_mx_sn (N : Nat) (inb : Nat → Int32) (lo : Int32) (n j : Nat) : ov_mx N inb lo (n + 1) j = (ov_mx N inb lo n j && ov_mq N inb lo j n) := ov_al_sn _ _
def ov_Set (N : Nat) (S : Int64) (M : Nat → Bool) : Prop := ∀ j, j < 64 → ov_b S j = (decide (j < 2 ^ N) && M j)
theorem ov_xm12 (post : Int64 → Prop) (lo : Int32) (N : Nat) (hN : N ≤ 5) (fb : Int32) (fal : Nat → Int64) (inb : Nat → Int32) (hF : ov_Fal N fal) (hp : ∀ S, ov_Set N S (ov_mx N inb lo (3 ^ N)) → post S) : ∀ d c S, c + d = 3 ^ N → ov_Set N S (ov_mx N inb lo c) → wX_modelsWithout_12 post lo (nI N) (nI (3 ^ N)) (nI (2 ^ N)) fb fal inb (d + 1) S (nI c) := by
  have h3 := ov_p3 hN
  intro d
  induction d with
  | zero =>
    intro c S hc hS
    refine br_t (nI_le (by omega) (by omega)) (hp S ?_)
    rw [show 3 ^ N = c by omega]
    exact hS
  | succ d ih =>
    intro c S hc hS
    have ec : (nI c).toNatClampNeg = c := nI_clamp (by omega)
    refine br_f (nI_ge (by omega) (by omega)) ⟨pk_in c 243 (by omega), br_c (fun z => nm_r (nI_1 c) (ih (c + 1) S (by omega) (fun j hj => ?_))) (fun z => br_c (fun e => nm_r (nI_1 c) (ih (c + 1) S (by omega) (fun j hj => ?_))) (fun e => ⟨pk_in c 243 (by omega), nm_r (e' := S &&& (fal c ^^^ (-1))) (by rw [ec]) (nm_r (nI_1 c) (ih (c + 1) _ (by omega) (fun j hj => ?_)))⟩))⟩
    · rw [ec] at z
      rw [ov_mx_sn, hS j hj, show ov_mq N inb lo j c = true by unfold ov_mq; rw [decide_eq_true z, Bool.true_or], Bool.and_true]
    · rw [ov_mx_sn, hS j hj, show ov_mq N inb lo j c = true by unfold ov_mq; rw [decide_eq_true e, Bool.true_or, Bool.or_true], Bool.and_true]
    · rw [ec] at z
      rw [ov_mx_sn, ov_b_and, hS j hj, ov_b_not _ hj, hF c (by omega) j hj, show ov_mq N inb lo j c = ov_zs N j c by unfold ov_mq; rw [decide_eq_false z, decide_eq_false e, Bool.false_or, Bool.false_or]]
      cases decide (j < 2 ^ N) <;> cases ov_mx N inb lo c j <;> cases ov_zs N j c <;> rfl
theorem ov_xmw (post : Int64 → Prop) (lo : Int32) (N : Nat) (hN : N ≤ 5) (fb : Int32) (fal : Nat → Int64) (inb : Nat → Int32) (hF : ov_Fal N fal) (hp : ∀ S, ov_Set N S (ov_mx N inb lo (3 ^ N)) → post S) : wpX_modelsWithout post (nI N, nI (3 ^ N), nI (2 ^ N), fb, fal, inb) lo := by
  refine nm_e ⟨3 ^ N + 1, ov_xm12 post lo N hN fb fal inb hF hp (3 ^ N) 0 _ (by omega) (fun j hj => ?_)⟩
  rw [ov_b_full N (by omega) j hj]
  show _ = (_ && true)
  rw [Bool.and_true]
theorem ov_sf {N : Nat} (hN : N ≤ 5) {fal : Nat → Int64} (hF : ov_Fal N fal) {S : Int64} {M : Nat → Bool} (hS : ov_Set N S M) {c : Nat} (hc : c < 3 ^ N) : (S &&& fal c) = 0 ↔ ov_fl N M c = true := by
  have h2 := ov_p2 hN
  rw [ov_b_z, ov_fl_iff]
  constructor
  · intro h j hj hm
    have := h j (by omega)
    rw [ov_b_and, hS j (by omega), hF c hc j (by omega), decide_eq_true hj, hm] at this
    simpa using this
  · intro h j hj
    rw [ov_b_and, hS j hj, hF c hc j hj]
    by_cases g : j < 2 ^ N
    · cases hm : M j with
      | false => simp
      | true => rw [h j g hm]; simp
    · rw [decide_eq_false g]; rfl
theorem ov_xall (post : Int32 → Prop) (N : Nat) (hN : N ≤ 5) (fb : Int32) (fal : Nat → Int64) (inb : Nat → Int32) (hF : ov_Fal N fal) (S : Int64) (M : Nat → Bool) (hS : ov_Set N S M) (c : Nat) (hc : c < 3 ^ N) (x : Int32) (hx : x = nI c) (hp : post (ov_bI (ov_fl N M c))) : wpX_allSatisfy post (nI N, nI (3 ^ N), nI (2 ^ N), fb, fal, inb) S x := by
  have h3 := ov_p3 hN
  subst hx
  have ec : (nI c).toNatClampNeg = c := nI_clamp (by omega)
  have hs := ov_sf hN hF hS hc
  refine ⟨pk_in c 243 (by omega), br_c (fun z => ?_) (fun z => ?_)⟩
  · rw [ec, hs] at z
    rw [z] at hp
    exact hp
  · rw [ec, hs, Bool.not_eq_true] at z
    rw [z] at hp
    exact hp
theorem ov_x57 (post : Int32 → Prop) (J20 : Int32 → Int32 → Int32 → Prop) (x1 : Int64) (x3 : Int32) (c w v : Nat) (hc : c < 2 ^ 31) (fv fc fa fb : Int32) (fal : Nat → Int64) (inb : Nat → Int32) (h : J20 (nI (c / 3)) (nI (w * 3)) (nI (v + 1))) : wX_isPrime_57 post J20 x1 x3 (nI c) (nI w) (nI v) fv fc fa fb fal inb :=
  ⟨by decide, nm_r (pk_div (d := 3) hc (by decide) (by decide)) (nm_r (pk_mul w 3) (nm_r (nI_1 v) h))⟩
def ov_pq (N : Nat) (M : Nat → Bool) (c v : Nat) : Bool := decide (c / 3 ^ v % 3 = 0) || !ov_fl N M (c - c / 3 ^ v % 3 * 3 ^ v)
theorem ov_xp20 (post : Int32 → Prop) (N : Nat) (hN : N ≤ 5) (fb : Int32) (fal : Nat → Int64) (inb : Nat → Int32) (hF : ov_Fal N fal) (S : Int64) (M : Nat → Bool) (hS : ov_Set N S M) (c : Nat) (hc : c < 3 ^ N) : ∀ d v, v + d = N → post (ov_bI (ov_al (ov_pq N M c) d v)) → wX_isPrime_20 post S (nI c) (nI N) (nI (3 ^ N)) (nI (2 ^ N)) fb fal inb (d + 1) (nI (c / 3 ^ v)) (nI (3 ^ v)) (nI v) := by
  have h3 := ov_p3 hN
  intro d
  induction d with
  | zero =>
    intro v hv hp
    exact br_t (nI_le (by omega) (by omega)) hp
  | succ d ih =>
    intro v hv hp
    have hc' : c / 3 ^ v < 2 ^ 31 := Nat.lt_of_le_of_lt (Nat.div_le_self _ _) (by omega)
    have key : ov_pq N M c v = true → wX_isPrime_57 post (wX_isPrime_20 post S (nI c) (nI N) (nI (3 ^ N)) (nI (2 ^ N)) fb fal inb (d + 1)) S (nI c) (nI (c / 3 ^ v)) (nI (3 ^ v)) (nI v) (nI N) (nI (3 ^ N)) (nI (2 ^ N)) fb fal inb := by
      intro g
      refine ov_x57 post _ S (nI c) _ _ v hc' _ _ _ fb fal inb ?_
      rw [ov_dv3, ← Nat.pow_succ]
      refine ih (v + 1) (by omega) ?_
      have : ov_al (ov_pq N M c) (d + 1) v = ov_al (ov_pq N M c) d (v + 1) := by
        show (ov_pq N M c v && _) = _
        rw [g, Bool.true_and]
      rw [this] at hp
      exact hp
    have hd := ov_dle c v
    refine br_f (nI_ge (by omega) (by omega)) ⟨by decide, nm_r (pk_rem (d := 3) hc' (by decide) (by decide)) (pk_eq (c / 3 ^ v % 3) 0 (fun g => key ?_) (fun g => ov_xall _ N hN fb fal inb hF S M hS (c - c / 3 ^ v % 3 * 3 ^ v) (by omega) _ (by rw [pk_mul, pk_sub hd]) (ov_br _ (fun e => key ?_) (fun e => ?_))))⟩
    · unfold ov_pq; rw [decide_eq_true g, Bool.true_or]
    · unfold ov_pq; rw [e]; simp
    · have : ov_al (ov_pq N M c) (d + 1) v = false := by
        show (ov_pq N M c v && _) = false
        rw [show ov_pq N M c v = false by unfold ov_pq; rw [decide_eq_false g, e]; rfl, Bool.false_and]
      rw [this] at hp
      exact hp
theorem ov_xprime (post : Int32 → Prop) (N : Nat) (hN : N ≤ 5) (fb : Int32) (fal : Nat → Int64) (inb : Nat → Int32) (hF : ov_Fal N fal) (S : Int64) (M : Nat → Bool) (hS : ov_Set N S M) (c : Nat) (hc : c < 3 ^ N) (hp : post (ov_bI (ov_pr N M c))) : wpX_isPrime post (nI N, nI (3 ^ N), nI (2 ^ N), fb, fal, inb) S (nI c) := by
  rw [← ov_px_pr hN M hc] at hp
  unfold wpX_isPrime
  dsimp only
  refine ov_xall _ N hN fb fal inb hF S M hS c hc _ rfl (ov_br _ (fun g => ?_) (fun g => ⟨N + 1, ?_⟩))
  · unfold ov_px at hp
    rw [g] at hp
    exact hp
  · have := ov_xp20 post N hN fb fal inb hF S M hS c hc N 0 (by omega) (by unfold ov_px at hp; rw [g] at hp; exact hp)
    rw [Nat.pow_zero, Nat.div_one] at this
    exact this
theorem ov_xcon (post : Int32 → Prop) (S : Int64) (a : Nat) (ha : a < 64) (hp : post (ov_bI (ov_b S a))) : wpX_contains post S (nI a) := by
  refine br_c (fun z => ?_) (fun z => ?_)
  · rw [ov_b_con S ha] at z
    rw [z] at hp
    exact hp
  · rw [ov_b_con S ha, Bool.not_eq_true] at z
    rw [z] at hp
    exact hp
end
section
/-! the component: the calls that ask -/
theorem ov_cn_f {p : Nat → Bool} {v : Nat} (d : Nat) (h : p v = false) : ov_cn p (d + 1) v = ov_cn p d (v + 1) := by
  show (if p v = true then 1 else 0) + ov_cn p d (v + 1) = _
  rw [h, if_neg (by decide), Nat.zero_add]
theorem ov_cn_t {p : Nat → Bool} {v : Nat} (d : Nat) (h : p v = true) : ov_cn p (d + 1) v = 1 + ov_cn p d (v + 1) := by
  show (if p v = true then 1 else 0) + ov_cn p d (v + 1) = _
  rw [h, if_pos rfl]
theorem ov_ff_f {p : Nat → Bool} {v : Nat} (d : Nat) (h : p v = false) : ov_ff p (d + 1) v = ov_ff p d (v + 1) := by
  show (if p v = true then nI v else ov_ff p d (v + 1)) = _
  rw [h, if_neg (by decide)]
theorem ov_ff_t {p : Nat → Bool} {v : Nat} (d : Nat) (h : p v = true) : ov_ff p (d + 1) v = nI v := by
  show (if p v = true then nI v else ov_ff p d (v + 1)) = _
  rw [h, if_pos rfl]
theorem ov_kp_f {k : Int32} {p : Nat → Bool} {v : Nat} (d b : Nat) (h : p v = false) : ov_kp k p (d + 1) v b = ov_kp k p d (v + 1) b := by
  show (if p v = true then (if nI b = k then nI v else ov_kp k p d (v + 1) (b + 1)) else ov_kp k p d (v + 1) b) = _
  rw [h, if_neg (by decide)]
theorem ov_kp_t {k : Int32} {p : Nat → Bool} {v : Nat} (d b : Nat) (h : p v = true) (e : nI b = k) : ov_kp k p (d + 1) v b = nI v := by
  show (if p v = true then (if nI b = k then nI v else ov_kp k p d (v + 1) (b + 1)) else ov_kp k p d (v + 1) b) = _
  rw [h, if_pos rfl, if_pos e]
theorem ov_kp_n {k : Int32} {p : Nat → Bool} {v : Nat} (d b : Nat) (h : p v = true) (e : ¬ nI b = k) : ov_kp k p (d + 1) v b = ov_kp k p d (v + 1) (b + 1) := by
  show (if p v = true then (if nI b = k then nI v else ov_kp k p d (v + 1) (b + 1)) else ov_kp k p d (v + 1) b) = _
  rw [h, if_pos rfl, if_neg e]
theorem ov_Set_cg {N : Nat} {S : Int64} {M M' : Nat → Bool} (h : ∀ j, j < 2 ^ N → M j = M' j) (hS : ov_Set N S M) : ov_Set N S M' := by
  intro j hj
  rw [hS j hj]
  by_cases g : j < 2 ^ N
  · rw [h j g]
  · rw [decide_eq_false g]; rfl
theorem ov_xis (post : Int32 → Prop) (N : Nat) (hN : N ≤ 5) (fb : Int32) (fal : Nat → Int64) (inb : Nat → Int32) (x : Int32) (h0 : (x < 0 ∨ nI (3 ^ N) ≤ x) → post 0) (h1 : ∀ c, c < 3 ^ N → x = nI c → post 1) : wpX_isClause post (nI N, nI (3 ^ N), nI (2 ^ N), fb, fal, inb) x := by
  have h3 := ov_p3 hN
  refine br_c (fun z => h0 (Or.inl z)) (fun z => br_c (fun y => h0 (Or.inr y)) (fun y => ?_))
  rcases pk_ix x (n := 3 ^ N) (by omega) with g | g | ⟨c, hc, e⟩
  · exact absurd g z
  · exact absurd g y
  · exact h1 c hc e
theorem ov_ximp (post : Int32 → Prop) (N : Nat) (hN : N ≤ 5) (fb : Int32) (fal : Nat → Int64) (inb : Nat → Int32) (hF : ov_Fal N fal) (M : Nat → Bool) (hM : ∀ j, j < 2 ^ N → ov_mx N inb (-1) (3 ^ N) j = M j) (x : Int32) (h0 : (x < 0 ∨ nI (3 ^ N) ≤ x) → post 0) (h1 : ∀ c, c < 3 ^ N → x = nI c → post (ov_bI (ov_fl N M c))) : wpX_implied post (nI N, nI (3 ^ N), nI (2 ^ N), fb, fal, inb) x := by
  unfold wpX_implied
  dsimp only
  refine ov_xis _ N hN fb fal inb x (fun g => br_t rfl (h0 g)) (fun c hc e => br_f (by decide) ?_)
  refine ov_xmw _ (-1) N hN fb fal inb hF (fun S hS => ?_)
  refine ov_xall _ N hN fb fal inb hF S M (ov_Set_cg hM hS) c hc x e ⟨ov_nb _, h1 c hc e⟩
theorem ov_xprimes11 (post : Int32 → Prop) (N : Nat) (hN : N ≤ 5) (fb : Int32) (fal : Nat → Int64) (inb : Nat → Int32) (hF : ov_Fal N fal) (S : Int64) (M : Nat → Bool) (hS : ov_Set N S M) : ∀ d c k, c + d = 3 ^ N → post (nI (k + ov_cn (ov_pr N M) d c)) → wX_primes_11 post S (nI N) (nI (3 ^ N)) (nI (2 ^ N)) fb fal inb (d + 1) (nI k) (nI c) := by
  have h3 := ov_p3 hN
  intro d
  induction d with
  | zero =>
    intro c k hc hp
    exact br_t (nI_le (by omega) (by omega)) hp
  | succ d ih =>
    intro c k hc hp
    refine br_f (nI_ge (by omega) (by omega)) (ov_xprime _ N hN fb fal inb hF S M hS c (by omega) (ov_br _ (fun g => nm_r (nI_1 c) (ih (c + 1) k (by omega) ?_)) (fun g => nm_r (nI_1 k) (nm_r (nI_1 c) (ih (c + 1) (k + 1) (by omega) ?_)))))
    · rw [ov_cn_f d g] at hp
      exact hp
    · rw [ov_cn_t d g, ← Nat.add_assoc] at hp
      exact hp
theorem ov_xprimes (post : Int32 → Prop) (N : Nat) (hN : N ≤ 5) (fb : Int32) (fal : Nat → Int64) (inb : Nat → Int32) (hF : ov_Fal N fal) (M : Nat → Bool) (hM : ∀ j, j < 2 ^ N → ov_mx N inb (-1) (3 ^ N) j = M j) (hp : post (nI (ov_cn (ov_pr N M) (3 ^ N) 0))) : wpX_primes post (nI N, nI (3 ^ N), nI (2 ^ N), fb, fal, inb) := by
  unfold wpX_primes
  dsimp only
  refine ov_xmw _ (-1) N hN fb fal inb hF (fun S hS => ⟨3 ^ N + 1, ov_xprimes11 post N hN fb fal inb hF S M (ov_Set_cg hM hS) (3 ^ N) 0 0 (by omega) ?_⟩)
  rw [Nat.zero_add]
  exact hp
theorem ov_xprime19 (post : Int32 → Prop) (N : Nat) (hN : N ≤ 5) (fb : Int32) (fal : Nat → Int64) (inb : Nat → Int32) (hF : ov_Fal N fal) (S : Int64) (M : Nat → Bool) (hS : ov_Set N S M) (k : Int32) : ∀ d c b, c + d = 3 ^ N → post (ov_kp k (ov_pr N M) d c b) → wX_prime_19 post k S (nI N) (nI (3 ^ N)) (nI (2 ^ N)) fb fal inb (d + 1) (nI b) (nI c) := by
  have h3 := ov_p3 hN
  intro d
  induction d with
  | zero =>
    intro c b hc hp
    exact br_t (nI_le (by omega) (by omega)) hp
  | succ d ih =>
    intro c b hc hp
    refine br_f (nI_ge (by omega) (by omega)) (ov_xprime _ N hN fb fal inb hF S M hS c (by omega) (ov_br _ (fun g => nm_r (nI_1 c) (ih (c + 1) b (by omega) ?_)) (fun g => br_c (fun e => ?_) (fun e => nm_r (nI_1 b) (nm_r (nI_1 c) (ih (c + 1) (b + 1) (by omega) ?_))))))
    · rw [ov_kp_f d b g] at hp
      exact hp
    · rw [ov_kp_t d b g e] at hp
      exact hp
    · rw [ov_kp_n d b g e] at hp
      exact hp
theorem ov_xprimek (post : Int32 → Prop) (N : Nat) (hN : N ≤ 5) (fb : Int32) (fal : Nat → Int64) (inb : Nat → Int32) (hF : ov_Fal N fal) (M : Nat → Bool) (hM : ∀ j, j < 2 ^ N → ov_mx N inb (-1) (3 ^ N) j = M j) (k : Int32) (hp : post (ov_kp k (ov_pr N M) (3 ^ N) 0 0)) : wpX_prime post (nI N, nI (3 ^ N), nI (2 ^ N), fb, fal, inb) k := by
  have h3 := ov_p3 hN
  refine br_c (fun _ => ?_) (fun g => ?_)
  · refine ov_xmw _ (-1) N hN fb fal inb hF (fun S hS => ⟨3 ^ N + 1, ov_xprime19 post N hN fb fal inb hF S M (ov_Set_cg hM hS) k (3 ^ N) 0 0 (by omega) hp⟩)
  · rw [ov_kp_neg (Int32.not_le.mp g) _ _ _ _ (by omega)] at hp
    exact hp
theorem ov_xpw19 (post : Int32 → Prop) (N : Nat) (hN : N ≤ 5) (fb : Int32) (fal : Nat → Int64) (inb : Nat → Int32) (hF : ov_Fal N fal) (S : Int64) (M : Nat → Bool) (hS : ov_Set N S M) (o : Nat) (ho : o < 3 ^ N) : ∀ d c, c + d = 3 ^ N → post (ov_ff (fun e => ov_zw N e o && ov_pr N M e) d c) → wX_primeWithin_19 post (nI o) S (nI N) (nI (3 ^ N)) (nI (2 ^ N)) fb fal inb (d + 1) (nI c) := by
  have h3 := ov_p3 hN
  intro d
  induction d with
  | zero =>
    intro c hc hp
    exact br_t (nI_le (by omega) (by omega)) hp
  | succ d ih =>
    intro c hc hp
    refine br_f (nI_ge (by omega) (by omega)) (ov_xw _ N hN _ _ fb fal inb c o (by omega) (by omega) (ov_br _ (fun g => nm_r (nI_1 c) (ih (c + 1) (by omega) ?_)) (fun g => ov_xprime _ N hN fb fal inb hF S M hS c (by omega) (ov_br _ (fun e => nm_r (nI_1 c) (ih (c + 1) (by omega) ?_)) (fun e => ?_)))))
    · rw [ov_ff_f d (by rw [g, Bool.false_and])] at hp
      exact hp
    · rw [ov_ff_f d (by rw [e, Bool.and_false])] at hp
      exact hp
    · rw [ov_ff_t d (by rw [g, e, Bool.and_true])] at hp
      exact hp
theorem ov_xpw (post : Int32 → Prop) (N : Nat) (hN : N ≤ 5) (fb : Int32) (fal : Nat → Int64) (inb : Nat → Int32) (hF : ov_Fal N fal) (M : Nat → Bool) (hM : ∀ j, j < 2 ^ N → ov_mx N inb (-1) (3 ^ N) j = M j) (x : Int32) (h0 : (x < 0 ∨ nI (3 ^ N) ≤ x) → post (-1)) (h1 : ∀ c, c < 3 ^ N → x = nI c → post (ov_ff (fun e => ov_zw N e c && ov_pr N M e) (3 ^ N) 0)) : wpX_primeWithin post (nI N, nI (3 ^ N), nI (2 ^ N), fb, fal, inb) x := by
  unfold wpX_primeWithin
  dsimp only
  refine ov_xis _ N hN fb fal inb x (fun g => br_t rfl (h0 g)) (fun c hc e => br_f (by decide) ?_)
  subst e
  refine ov_xmw _ (-1) N hN fb fal inb hF (fun S hS => ⟨3 ^ N + 1, ov_xpw19 post N hN fb fal inb hF S M (ov_Set_cg hM hS) c hc (3 ^ N) 0 (by omega) (h1 c hc rfl)⟩)
theorem ov_set_in {N : Nat} (hN : N ≤ 5) {S : Int64} {M : Nat → Bool} (hS : ov_Set N S M) {a : Nat} (ha : a < 2 ^ N) : ov_b S a = M a := by
  have h2 := ov_p2 hN
  rw [hS a (by omega), decide_eq_true ha, Bool.true_and]
theorem ov_xmod11 (post : Int32 → Prop) (N : Nat) (hN : N ≤ 5) (fb : Int32) (fal : Nat → Int64) (inb : Nat → Int32) (S : Int64) (M : Nat → Bool) (hS : ov_Set N S M) : ∀ d a k, a + d = 2 ^ N → post (nI (k + ov_cn M d a)) → wX_models_11 post S (nI N) (nI (3 ^ N)) (nI (2 ^ N)) fb fal inb (d + 1) (nI k) (nI a) := by
  have h2 := ov_p2 hN
  intro d
  induction d with
  | zero =>
    intro a k ha hp
    exact br_t (nI_le (by omega) (by omega)) hp
  | succ d ih =>
    intro a k ha hp
    refine br_f (nI_ge (by omega) (by omega)) (ov_xcon _ S a (by omega) ?_)
    rw [ov_set_in hN hS (show a < 2 ^ N by omega)]
    refine ov_br _ (fun g => nm_r (nI_1 a) (ih (a + 1) k (by omega) ?_)) (fun g => nm_r (nI_1 k) (nm_r (nI_1 a) (ih (a + 1) (k + 1) (by omega) ?_)))
    · rw [ov_cn_f d g] at hp
      exact hp
    · rw [ov_cn_t d g, ← Nat.add_assoc] at hp
      exact hp
theorem ov_xmod (post : Int32 → Prop) (N : Nat) (hN : N ≤ 5) (fb : Int32) (fal : Nat → Int64) (inb : Nat → Int32) (hF : ov_Fal N fal) (M : Nat → Bool) (hM : ∀ j, j < 2 ^ N → ov_mx N inb (-1) (3 ^ N) j = M j) (hp : post (nI (ov_cn M (2 ^ N) 0))) : wpX_models post (nI N, nI (3 ^ N), nI (2 ^ N), fb, fal, inb) := by
  unfold wpX_models
  dsimp only
  refine ov_xmw _ (-1) N hN fb fal inb hF (fun S hS => ⟨2 ^ N + 1, ov_xmod11 post N hN fb fal inb S M (ov_Set_cg hM hS) (2 ^ N) 0 0 (by omega) ?_⟩)
  rw [Nat.zero_add]
  exact hp
theorem ov_xlm19 (post : Int32 → Prop) (N : Nat) (hN : N ≤ 5) (fb : Int32) (fal : Nat → Int64) (inb : Nat → Int32) (S : Int64) (M : Nat → Bool) (hS : ov_Set N S M) (vs mk : Int32) : ∀ d a, a + d = 2 ^ N → post (ov_ff (fun e => M e && decide (((nI e ^^^ vs) &&& mk) = 0)) d a) → wX_leastModel_19 post vs S mk (nI N) (nI (3 ^ N)) (nI (2 ^ N)) fb fal inb (d + 1) (nI a) := by
  have h2 := ov_p2 hN
  intro d
  induction d with
  | zero =>
    intro a ha hp
    exact br_t (nI_le (by omega) (by omega)) hp
  | succ d ih =>
    intro a ha hp
    refine br_f (nI_ge (by omega) (by omega)) (br_c (fun z => br_f (by decide) (ov_xcon _ S a (by omega) ?_)) (fun z => br_t rfl (nm_r (nI_1 a) (ih (a + 1) (by omega) ?_))))
    · rw [ov_set_in hN hS (show a < 2 ^ N by omega)]
      refine ov_br _ (fun g => nm_r (nI_1 a) (ih (a + 1) (by omega) ?_)) (fun g => ?_)
      · rw [ov_ff_f d (by rw [g, Bool.false_and])] at hp
        exact hp
      · rw [ov_ff_t d (by rw [g, decide_eq_true z, Bool.and_true])] at hp
        exact hp
    · rw [ov_ff_f d (by rw [decide_eq_false z, Bool.and_false])] at hp
      exact hp
theorem ov_xlm (post : Int32 → Prop) (N : Nat) (hN : N ≤ 5) (fb : Int32) (fal : Nat → Int64) (inb : Nat → Int32) (hF : ov_Fal N fal) (M : Nat → Bool) (hM : ∀ j, j < 2 ^ N → ov_mx N inb (-1) (3 ^ N) j = M j) (fx vs : Int32) (hp : post (ov_ff (fun e => M e && decide (((nI e ^^^ vs) &&& (fx &&& (nI (2 ^ N) - 1))) = 0)) (2 ^ N) 0)) : wpX_leastModel post (nI N, nI (3 ^ N), nI (2 ^ N), fb, fal, inb) fx vs := by
  unfold wpX_leastModel
  dsimp only
  exact ov_xmw _ (-1) N hN fb fal inb hF (fun S hS => nm_e ⟨2 ^ N + 1, ov_xlm19 post N hN fb fal inb S M (ov_Set_cg hM hS) vs _ (2 ^ N) 0 (by omega) hp⟩)
theorem ov_xibo (post : Int32 → Prop) (N : Nat) (hN : N ≤ 5) (fb : Int32) (fal : Nat → Int64) (inb : Nat → Int32) (hF : ov_Fal N fal) (c : Nat) (hc : c < 3 ^ N) (hp : post (ov_bI (ov_fl N (ov_mx N inb (nI c) (3 ^ N)) c))) : wpX_impliedByOthers post (nI N, nI (3 ^ N), nI (2 ^ N), fb, fal, inb) (nI c) := by
  unfold wpX_impliedByOthers
  dsimp only
  exact ov_xmw _ (nI c) N hN fb fal inb hF (fun S hS => ov_xall _ N hN fb fal inb hF S _ hS c hc _ rfl ⟨ov_nb _, hp⟩)
def ov_rx (N : Nat) (inb : Nat → Int32) (c : Nat) : Bool := !decide (inb c = 0) && ov_fl N (ov_mx N inb (nI c) (3 ^ N)) c
theorem ov_xred4 (post : Int32 → Prop) (N : Nat) (hN : N ≤ 5) (fb : Int32) (fal : Nat → Int64) (inb : Nat → Int32) (hF : ov_Fal N fal) : ∀ d c k, c + d = 3 ^ N → post (nI (k + ov_cn (ov_rx N inb) d c)) → wX_redundant_4 post (nI N) (nI (3 ^ N)) (nI (2 ^ N)) fb fal inb (d + 1) (nI k) (nI c) := by
  have h3 := ov_p3 hN
  intro d
  induction d with
  | zero =>
    intro c k hc hp
    exact br_t (nI_le (by omega) (by omega)) hp
  | succ d ih =>
    intro c k hc hp
    have ec : (nI c).toNatClampNeg = c := nI_clamp (by omega)
    refine br_f (nI_ge (by omega) (by omega)) ⟨pk_in c 243 (by omega), br_c (fun z => nm_r (nI_1 c) (ih (c + 1) k (by omega) ?_)) (fun z => ov_xibo _ N hN fb fal inb hF c (by omega) (ov_br _ (fun g => nm_r (nI_1 c) (ih (c + 1) k (by omega) ?_)) (fun g => nm_r (nI_1 k) (nm_r (nI_1 c) (ih (c + 1) (k + 1) (by omega) ?_)))))⟩
    · rw [ec] at z
      rw [ov_cn_f d (by unfold ov_rx; rw [decide_eq_true z]; rfl)] at hp
      exact hp
    · rw [ov_cn_f d (by unfold ov_rx; rw [g, Bool.and_false])] at hp
      exact hp
    · rw [ec] at z
      rw [ov_cn_t d (by unfold ov_rx; rw [decide_eq_false z, g]; rfl), ← Nat.add_assoc] at hp
      exact hp
theorem ov_xred (post : Int32 → Prop) (N : Nat) (hN : N ≤ 5) (fb : Int32) (fal : Nat → Int64) (inb : Nat → Int32) (hF : ov_Fal N fal) (hp : post (nI (ov_cn (ov_rx N inb) (3 ^ N) 0))) : wpX_redundant post (nI N, nI (3 ^ N), nI (2 ^ N), fb, fal, inb) :=
  ⟨3 ^ N + 1, ov_xred4 post N hN fb fal inb hF (3 ^ N) 0 0 (by omega) (by rw [Nat.zero_add]; exact hp)⟩
end
section
/-! the reference: place, satisfies, within, models, follows, prime -/
theorem ov_yis (post : Int32 → Prop) (N : Nat) (hN : N ≤ 5) (sz : Nat) (hz : sz ≤ 12) (base md fo : Nat → Int32) (x : Int32) (h0 : (x < 0 ∨ nI (3 ^ N) ≤ x) → post 0) (h1 : ∀ c, c < 3 ^ N → x = nI c → post 1) : wpY_isClause post (nI N, nI (3 ^ N), nI sz, base, md, fo) x := by
  have h3 := ov_p3 hN
  refine br_c (fun z => h0 (Or.inl z)) (fun z => br_c (fun y => h0 (Or.inr y)) (fun y => ?_))
  rcases pk_ix x (n := 3 ^ N) (by omega) with g | g | ⟨c, hc, e⟩
  · exact absurd g z
  · exact absurd g y
  · exact h1 c hc e
theorem ov_ypl2 (post : Int32 → Prop) (N : Nat) (hN : N ≤ 5) (sz : Nat) (hz : sz ≤ 12) (base md fo : Nat → Int32) (x : Int32) (h1 : ∀ i, i < sz → base i = x → post (nI i)) (h0 : (∀ i, i < sz → base i ≠ x) → post (-1)) : ∀ d i, i + d = sz → (∀ k, k < i → base k ≠ x) → wY_placeOf_2 post x (nI N) (nI (3 ^ N)) (nI sz) base md fo (d + 1) (nI i) := by
  intro d
  induction d with
  | zero =>
    intro i hi hk
    exact br_t (nI_le (by omega) (by omega)) (h0 (fun k hk' => hk k (by omega)))
  | succ d ih =>
    intro i hi hk
    have ec : (nI i).toNatClampNeg = i := nI_clamp (by omega)
    refine br_f (nI_ge (by omega) (by omega)) ⟨pk_in i 12 (by omega), br_c (fun z => h1 i (by omega) (by rw [ec] at z; exact z)) (fun z => nm_r (nI_1 i) (ih (i + 1) (by omega) (fun k hk' => ?_)))⟩
    rw [ec] at z
    rcases Nat.eq_or_lt_of_le (Nat.le_of_lt_succ hk') with e | e
    · rw [e]; exact z
    · exact hk k e
theorem ov_ypl (post : Int32 → Prop) (N : Nat) (hN : N ≤ 5) (sz : Nat) (hz : sz ≤ 12) (base md fo : Nat → Int32) (x : Int32) (h1 : ∀ i, i < sz → base i = x → post (nI i)) (h0 : (∀ i, i < sz → base i ≠ x) → post (-1)) : wpY_placeOf post (nI N, nI (3 ^ N), nI sz, base, md, fo) x :=
  ⟨sz + 1, ov_ypl2 post N hN sz hz base md fo x h1 h0 sz 0 (by omega) (fun k hk => absurd hk (by omega))⟩
theorem ov_y39 (post : Int32 → Prop) (J5 : Int32 → Int32 → Prop) (a c v z : Nat) (ha : a < 2 ^ 31) (hv : v < 32) (hz : z < 3) (fn fc fs : Int32) (base md fo : Nat → Int32) (h1 : z = 2 → a / 2 ^ v % 2 = 0 → post 1) (h2 : ¬ (z = 2 ∧ a / 2 ^ v % 2 = 0) → J5 (nI c) (nI (v + 1))) : wY_satisfies_39 post J5 (nI a) (nI c) (nI v) (nI z) fn fc fs base md fo := by
  have hd : a / 2 ^ v ≤ a := Nat.div_le_self _ _
  have eb : ((nI a >>> (nI v &&& 31)) &&& 1) = nI (a / 2 ^ v % 2) := by rw [pk_shrN ha _ v (s_l v hv)]; exact pk_andN (by omega) 1 (by decide)
  exact pk_eq z 2 (fun g => pk_eq (a / 2 ^ v % 2) 0 (fun g2 => h1 g g2) (fun g2 => nm_r (nI_1 v) (h2 (fun q => g2 q.2))) eb rfl) (fun g => nm_r (nI_1 v) (h2 (fun q => g q.1)))
theorem ov_ysat5 (post : Int32 → Prop) (N : Nat) (hN : N ≤ 5) (sz : Nat) (hz : sz ≤ 12) (base md fo : Nat → Int32) (a c : Nat) (ha : a < 2 ^ 31) (hc : c < 2 ^ 31) : ∀ d v, v + d = N → post (ov_bI (ov_an (ov_sp a c) d v)) → wY_satisfies_5 post (nI a) (nI N) (nI (3 ^ N)) (nI sz) base md fo (d + 1) (nI (c / 3 ^ v)) (nI v) := by
  intro d
  induction d with
  | zero =>
    intro v hv hp
    exact br_t (nI_le (by omega) (by omega)) hp
  | succ d ih =>
    intro v hv hp
    have hc' : c / 3 ^ v < 2 ^ 31 := Nat.lt_of_le_of_lt (Nat.div_le_self _ _) hc
    have hd : a / 2 ^ v ≤ a := Nat.div_le_self _ _
    have eb : ((nI a >>> (nI v &&& 31)) &&& 1) = nI (a / 2 ^ v % 2) := by rw [pk_shrN ha _ v (s_l v (by omega))]; exact pk_andN (by omega) 1 (by decide)
    have yes : (c / 3 ^ v % 3 = if a / 2 ^ v % 2 = 1 then 1 else 2) → post 1 := by
      intro g
      have : ov_an (ov_sp a c) (d + 1) v = true := by
        show (ov_sp a c v || _) = true
        rw [show ov_sp a c v = true from decide_eq_true g, Bool.true_or]
      rw [this] at hp
      exact hp
    have no : ¬ (c / 3 ^ v % 3 = if a / 2 ^ v % 2 = 1 then 1 else 2) → wY_satisfies_5 post (nI a) (nI N) (nI (3 ^ N)) (nI sz) base md fo (d + 1) (nI (c / 3 ^ v / 3)) (nI (v + 1)) := by
      intro g
      rw [ov_dv3]
      refine ih (v + 1) (by omega) ?_
      have : ov_an (ov_sp a c) (d + 1) v = ov_an (ov_sp a c) d (v + 1) := by
        show (ov_sp a c v || _) = _
        rw [show ov_sp a c v = false from decide_eq_false g, Bool.false_or]
      rw [this] at hp
      exact hp
    have key : ¬ (c / 3 ^ v % 3 = 1 ∧ a / 2 ^ v % 2 = 1) → wY_satisfies_39 post (wY_satisfies_5 post (nI a) (nI N) (nI (3 ^ N)) (nI sz) base md fo (d + 1)) (nI a) (nI (c / 3 ^ v / 3)) (nI v) (nI (c / 3 ^ v % 3)) (nI N) (nI (3 ^ N)) (nI sz) base md fo := by
      intro g
      refine ov_y39 post _ a _ v _ ha (by omega) (by omega) _ _ _ base md fo (fun e1 e2 => yes ?_) (fun e => no ?_)
      · rw [if_neg (by omega)]; exact e1
      · split <;> omega
    refine br_f (nI_ge (by omega) (by omega)) ⟨by decide, nm_r (pk_rem (d := 3) hc' (by decide) (by decide)) ⟨by decide, nm_r (pk_div (d := 3) hc' (by decide) (by decide)) (pk_eq (c / 3 ^ v % 3) 1 (fun g => pk_eq (a / 2 ^ v % 2) 1 (fun g2 => yes ?_) (fun g2 => key (fun q => g2 q.2)) eb rfl) (fun g => key (fun q => g q.1)))⟩⟩
    rw [if_pos g2]
    exact g
theorem ov_ysat (post : Int32 → Prop) (N : Nat) (hN : N ≤ 5) (sz : Nat) (hz : sz ≤ 12) (base md fo : Nat → Int32) (a c : Nat) (ha : a < 2 ^ 31) (hc : c < 2 ^ 31) (x : Int32) (hx : x = nI c) (hp : post (ov_bI (ov_zs N a c))) : wpY_satisfies post (nI N, nI (3 ^ N), nI sz, base, md, fo) (nI a) x := by
  subst hx
  have := ov_ysat5 post N hN sz hz base md fo a c ha hc N 0 (by omega) hp
  rw [Nat.pow_zero, Nat.div_one] at this
  exact ⟨N + 1, this⟩
theorem ov_y35 (post : Int32 → Prop) (J8 : Int32 → Int32 → Int32 → Prop) (d c v : Nat) (hd : d < 2 ^ 31) (hc : c < 2 ^ 31) (fn fc fs : Int32) (base md fo : Nat → Int32) (h : J8 (nI (d / 3)) (nI (c / 3)) (nI (v + 1))) : wY_within_35 post J8 (nI d) (nI c) (nI v) fn fc fs base md fo :=
  ⟨by decide, nm_r (pk_div (d := 3) hd (by decide) (by decide)) ⟨by decide, nm_r (pk_div (d := 3) hc (by decide) (by decide)) (nm_r (nI_1 v) h)⟩⟩
theorem ov_yw8 (post : Int32 → Prop) (N : Nat) (hN : N ≤ 5) (sz : Nat) (hz : sz ≤ 12) (base md fo : Nat → Int32) (i o : Nat) (hi : i < 2 ^ 31) (ho : o < 2 ^ 31) : ∀ d v, v + d = N → post (ov_bI (ov_al (ov_wp i o) d v)) → wY_within_8 post (nI N) (nI (3 ^ N)) (nI sz) base md fo (d + 1) (nI (i / 3 ^ v)) (nI (o / 3 ^ v)) (nI v) := by
  intro d
  induction d with
  | zero =>
    intro v hv hp
    exact br_t (nI_le (by omega) (by omega)) hp
  | succ d ih =>
    intro v hv hp
    have hi' : i / 3 ^ v < 2 ^ 31 := Nat.lt_of_le_of_lt (Nat.div_le_self _ _) hi
    have ho' : o / 3 ^ v < 2 ^ 31 := Nat.lt_of_le_of_lt (Nat.div_le_self _ _) ho
    have key : ov_wp i o v = true → wY_within_35 post (wY_within_8 post (nI N) (nI (3 ^ N)) (nI sz) base md fo (d + 1)) (nI (i / 3 ^ v)) (nI (o / 3 ^ v)) (nI v) (nI N) (nI (3 ^ N)) (nI sz) base md fo := by
      intro g
      refine ov_y35 post _ _ _ v hi' ho' _ _ _ base md fo ?_
      rw [ov_dv3, ov_dv3]
      refine ih (v + 1) (by omega) ?_
      have : ov_al (ov_wp i o) (d + 1) v = ov_al (ov_wp i o) d (v + 1) := by
        show (ov_wp i o v && _) = _
        rw [g, Bool.true_and]
      rw [this] at hp
      exact hp
    refine br_f (nI_ge (by omega) (by omega)) ⟨by decide, pk_eq (i / 3 ^ v % 3) 0 (fun g => key ?_) (fun g => ⟨by decide, by decide, pk_eq (i / 3 ^ v % 3) (o / 3 ^ v % 3) (fun g2 => key ?_) (fun g2 => ?_) (pk_rem (d := 3) hi' (by decide) (by decide)) (pk_rem (d := 3) ho' (by decide) (by decide))⟩) (pk_rem (d := 3) hi' (by decide) (by decide))⟩
    · unfold ov_wp; rw [decide_eq_true g, Bool.true_or]
    · unfold ov_wp; rw [decide_eq_true g2, Bool.or_true]
    · have : ov_al (ov_wp i o) (d + 1) v = false := by
        show (ov_wp i o v && _) = false
        rw [show ov_wp i o v = false by unfold ov_wp; rw [decide_eq_false g, decide_eq_false g2]; rfl, Bool.false_and]
      rw [this] at hp
      exact hp
theorem ov_yw (post : Int32 → Prop) (N : Nat) (hN : N ≤ 5) (sz : Nat) (hz : sz ≤ 12) (base md fo : Nat → Int32) (i o : Nat) (hi : i < 2 ^ 31) (ho : o < 2 ^ 31) (hp : post (ov_bI (ov_zw N i o))) : wpY_within post (nI N, nI (3 ^ N), nI sz, base, md, fo) (nI i) (nI o) := by
  have := ov_yw8 post N hN sz hz base md fo i o hi ho N 0 (by omega) hp
  rw [Nat.pow_zero, Nat.div_one, Nat.div_one] at this
  exact ⟨N + 1, this⟩
def ov_yq (N : Nat) (b : Nat → Nat) (lo : Int32) (a i : Nat) : Bool := decide (nI i = lo) || ov_zs N a (b i)
def ov_my (N : Nat) (b : Nat → Nat) (lo : Int32) (n a : Nat) : Bool := ov_al (ov_yq N b lo a) n 0
def ov_Bas (N sz : Nat) (base : Nat → Int32) (b : Nat → Nat) : Prop := ∀ i, i < sz → b i < 3 ^ N ∧ base i = nI (b i)
theorem ov_my_sn (N : Nat) (b : Nat → Nat) (lo : Int32) (n a : Nat) : ov_my N b lo (n + 1) a = (ov_my N b lo n a && ov_yq N b lo a n) := ov_al_sn _ _
theorem ov_ym21 (post : SY → Prop) (J2 : Int32 → (Nat → Int32) → (Nat → Int32) → (Nat → Int32) → Prop) (lo : Int32) (N : Nat) (hN : N ≤ 5) (sz : Nat) (hz : sz ≤ 12) (base fo : Nat → Int32) (b : Nat → Nat) (hB : ov_Bas N sz base b) (a : Nat) (ha : a < 32) : ∀ d i md, i + d = sz → md a = ov_bI (ov_my N b lo i a) → (∀ md', (∀ k, k ≠ a → md' k = md k) → md' a = ov_bI (ov_my N b lo sz a) → J2 (nI (a + 1)) base md' fo) → wY_findModels_21 post J2 lo (nI a) (nI N) (nI (3 ^ N)) (nI sz) (d + 1) (nI i) base md fo := by
  have h3 := ov_p3 hN
  intro d
  induction d with
  | zero =>
    intro i md hi hm hJ
    refine br_t (nI_le (by omega) (by omega)) (nm_r (nI_1 a) (hJ md (fun _ _ => rfl) ?_))
    rw [show sz = i by omega]
    exact hm
  | succ d ih =>
    intro i md hi hm hJ
    have ec : (nI i).toNatClampNeg = i := nI_clamp (by omega)
    have ea : (nI a).toNatClampNeg = a := nI_clamp (by omega)
    have hb := hB i (by omega)
    refine br_f (nI_ge (by omega) (by omega)) (br_c (fun z => nm_r (nI_1 i) (ih (i + 1) md (by omega) ?_ hJ)) (fun z => ⟨pk_in i 12 (by omega), ov_ysat _ N hN sz hz base md fo a (b i) (by omega) (by omega) _ (by rw [ec]; exact hb.2) (ov_br _ (fun g => ⟨pk_in a 32 ha, nm_r (e' := upd md a 0) (by rw [ea, ov_f]) (nm_r (nI_1 i) (ih (i + 1) _ (by omega) ?_ (fun md' k1 k2 => hJ md' (fun k hk => (k1 k hk).trans (pk_un hk)) k2)))⟩) (fun g => nm_r (nI_1 i) (ih (i + 1) md (by omega) ?_ hJ)))⟩))
    · rw [ov_my_sn, show ov_yq N b lo a i = true by unfold ov_yq; rw [decide_eq_true z, Bool.true_or], Bool.and_true]
      exact hm
    · rw [ov_my_sn, show ov_yq N b lo a i = false by unfold ov_yq; rw [decide_eq_false z, g]; rfl, Bool.and_false, pk_us]
      rfl
    · rw [ov_my_sn, show ov_yq N b lo a i = true by unfold ov_yq; rw [g, Bool.or_true], Bool.and_true]
      exact hm
def ov_Md (N : Nat) (md : Nat → Int32) (M : Nat → Bool) : Prop := ∀ a, a < 2 ^ N → md a = ov_bI (M a)
theorem ov_ym2 (post : SY → Prop) (lo : Int32) (N : Nat) (hN : N ≤ 5) (sz : Nat) (hz : sz ≤ 12) (base fo : Nat → Int32) (b : Nat → Nat) (hB : ov_Bas N sz base b) (hp : ∀ md, ov_Md N md (ov_my N b lo sz) → post (nI N, nI (3 ^ N), nI sz, base, md, fo)) : ∀ d a md, a + d = 2 ^ N → (∀ k, k < a → md k = ov_bI (ov_my N b lo sz k)) → wY_findModels_2 post lo (nI N) (nI (3 ^ N)) (nI sz) (d + 1) (nI a) base md fo := by
  have h2 := ov_p2 hN
  intro d
  induction d with
  | zero =>
    intro a md ha hm
    exact br_t (by rw [ov_sh1 N (by omega)]; exact nI_le (by omega) (by omega)) (hp md (fun k hk => hm k (by omega)))
  | succ d ih =>
    intro a md ha hm
    have ea : (nI a).toNatClampNeg = a := nI_clamp (by omega)
    refine br_f (by rw [ov_sh1 N (by omega)]; exact nI_ge (by omega) (by omega)) ⟨pk_in a 32 (by omega), nm_r (e' := upd md a 1) (by rw [ea, ov_t]) ⟨sz + 1, ov_ym21 post _ lo N hN sz hz base fo b hB a (by omega) sz 0 _ (by omega) (by rw [pk_us]; rfl) (fun md' k1 k2 => ih (a + 1) md' (by omega) (fun k hk => ?_))⟩⟩
    rcases Nat.eq_or_lt_of_le (Nat.le_of_lt_succ hk) with e | e
    · rw [e]; exact k2
    · rw [k1 k (by omega), pk_un (by omega)]; exact hm k e
theorem ov_ymod (post : SY → Prop) (lo : Int32) (N : Nat) (hN : N ≤ 5) (sz : Nat) (hz : sz ≤ 12) (base md fo : Nat → Int32) (b : Nat → Nat) (hB : ov_Bas N sz base b) (hp : ∀ md, ov_Md N md (ov_my N b lo sz) → post (nI N, nI (3 ^ N), nI sz, base, md, fo)) : wpY_findModels post (nI N, nI (3 ^ N), nI sz, base, md, fo) lo :=
  ⟨2 ^ N + 1, ov_ym2 post lo N hN sz hz base fo b hB hp (2 ^ N) 0 md (by omega) (fun k hk => absurd hk (by omega))⟩
theorem ov_yfn2 (post : Int32 → Prop) (N : Nat) (hN : N ≤ 5) (sz : Nat) (hz : sz ≤ 12) (base md fo : Nat → Int32) (M : Nat → Bool) (hM : ov_Md N md M) (c : Nat) (hc : c < 2 ^ 31) : ∀ d a, a + d = 2 ^ N → post (ov_bI (ov_al (fun j => !M j || ov_zs N j c) d a)) → wY_followsNow_2 post (nI c) (nI N) (nI (3 ^ N)) (nI sz) base md fo (d + 1) (nI a) := by
  have h2 := ov_p2 hN
  intro d
  induction d with
  | zero =>
    intro a ha hp
    exact br_t (by rw [ov_sh1 N (by omega)]; exact nI_le (by omega) (by omega)) hp
  | succ d ih =>
    intro a ha hp
    have ea : (nI a).toNatClampNeg = a := nI_clamp (by omega)
    have hm := hM a (by omega)
    have key : (!M a || ov_zs N a c) = true → wY_followsNow_2 post (nI c) (nI N) (nI (3 ^ N)) (nI sz) base md fo (d + 1) (nI (a + 1)) := by
      intro g
      refine ih (a + 1) (by omega) ?_
      have : ov_al (fun j => !M j || ov_zs N j c) (d + 1) a = ov_al (fun j => !M j || ov_zs N j c) d (a + 1) := by
        show ((!M a || ov_zs N a c) && _) = _
        rw [g, Bool.true_and]
      rw [this] at hp
      exact hp
    refine br_f (by rw [ov_sh1 N (by omega)]; exact nI_ge (by omega) (by omega)) ⟨pk_in a 32 (by omega), ?_⟩
    rw [ea, hm]
    refine ov_br _ (fun g => nm_r (nI_1 a) (key (by rw [g]; rfl))) (fun g => ov_ysat _ N hN sz hz base md fo a c (by omega) hc _ rfl (ov_br _ (fun e => ?_) (fun e => nm_r (nI_1 a) (key (by rw [e, Bool.or_true])))))
    have : ov_al (fun j => !M j || ov_zs N j c) (d + 1) a = false := by
      show ((!M a || ov_zs N a c) && _) = false
      rw [g, e]
      rfl
    rw [this] at hp
    exact hp
theorem ov_yfn (post : Int32 → Prop) (N : Nat) (hN : N ≤ 5) (sz : Nat) (hz : sz ≤ 12) (base md fo : Nat → Int32) (M : Nat → Bool) (hM : ov_Md N md M) (c : Nat) (hc : c < 2 ^ 31) (x : Int32) (hx : x = nI c) (hp : post (ov_bI (ov_fl N M c))) : wpY_followsNow post (nI N, nI (3 ^ N), nI sz, base, md, fo) x := by
  subst hx
  exact ⟨2 ^ N + 1, ov_yfn2 post N hN sz hz base md fo M hM c hc (2 ^ N) 0 (by omega) hp⟩
def ov_Fo (N : Nat) (fo : Nat → Int32) (M : Nat → Bool) : Prop := ∀ c, c < 3 ^ N → fo c = ov_bI (ov_fl N M c)
theorem ov_yff7 (post : SY → Prop) (N : Nat) (hN : N ≤ 5) (sz : Nat) (hz : sz ≤ 12) (base md : Nat → Int32) (M : Nat → Bool) (hM : ov_Md N md M) (hp : ∀ fo, ov_Fo N fo M → post (nI N, nI (3 ^ N), nI sz, base, md, fo)) : ∀ d c fo, c + d = 3 ^ N → (∀ k, k < c → fo k = ov_bI (ov_fl N M k)) → wY_findFollowing_7 post (nI N) (nI (3 ^ N)) (nI sz) (d + 1) (nI c) base md fo := by
  have h3 := ov_p3 hN
  intro d
  induction d with
  | zero =>
    intro c fo hc hm
    exact br_t (nI_le (by omega) (by omega)) (hp fo (fun k hk => hm k (by omega)))
  | succ d ih =>
    intro c fo hc hm
    have ec : (nI c).toNatClampNeg = c := nI_clamp (by omega)
    refine br_f (nI_ge (by omega) (by omega)) (ov_yfn _ N hN sz hz base md fo M hM c (by omega) _ rfl ⟨pk_in c 243 (by omega), nm_r (e' := upd fo c (ov_bI (ov_fl N M c))) (by rw [ec, ov_vb]) (nm_r (nI_1 c) (ih (c + 1) _ (by omega) (fun k hk => ?_)))⟩)
    rcases Nat.eq_or_lt_of_le (Nat.le_of_lt_succ hk) with e | e
    · rw [e, pk_us]
    · rw [pk_un (by omega)]; exact hm k e
theorem ov_yff (post : SY → Prop) (N : Nat) (hN : N ≤ 5) (sz : Nat) (hz : sz ≤ 12) (base md fo : Nat → Int32) (b : Nat → Nat) (hB : ov_Bas N sz base b) (hp : ∀ md fo, ov_Md N md (ov_my N b (-1) sz) → ov_Fo N fo (ov_my N b (-1) sz) → post (nI N, nI (3 ^ N), nI sz, base, md, fo)) : wpY_findFollowing post (nI N, nI (3 ^ N), nI sz, base, md, fo) := by
  unfold wpY_findFollowing
  dsimp only
  refine ov_ymod _ (-1) N hN sz hz base md fo b hB (fun md' hM => ?_)
  exact ⟨3 ^ N + 1, ov_yff7 post N hN sz hz base md' _ hM (fun fo' hf => hp md' fo' hM hf) (3 ^ N) 0 fo (by omega) (fun k hk => absurd hk (by omega))⟩
theorem ov_yp13 (post : Int32 → Prop) (N : Nat) (hN : N ≤ 5) (sz : Nat) (hz : sz ≤ 12) (base md fo : Nat → Int32) (M : Nat → Bool) (hf : ov_Fo N fo M) (c : Nat) (hc : c < 3 ^ N) : ∀ d e, e + d = 3 ^ N → post (ov_bI (ov_al (fun d => decide (d = c) || (!ov_fl N M d || !ov_zw N d c)) d e)) → wY_isPrime_13 post (nI c) (nI N) (nI (3 ^ N)) (nI sz) base md fo (d + 1) (nI e) := by
  have h3 := ov_p3 hN
  intro d
  induction d with
  | zero =>
    intro e he hp
    exact br_t (nI_le (by omega) (by omega)) hp
  | succ d ih =>
    intro e he hp
    have ee : (nI e).toNatClampNeg = e := nI_clamp (by omega)
    have hm := hf e (by omega)
    have key : (decide (e = c) || (!ov_fl N M e || !ov_zw N e c)) = true → wY_isPrime_13 post (nI c) (nI N) (nI (3 ^ N)) (nI sz) base md fo (d + 1) (nI (e + 1)) := by
      intro g
      refine ih (e + 1) (by omega) ?_
      have : ov_al (fun d => decide (d = c) || (!ov_fl N M d || !ov_zw N d c)) (d + 1) e = ov_al (fun d => decide (d = c) || (!ov_fl N M d || !ov_zw N d c)) d (e + 1) := by
        show ((decide (e = c) || (!ov_fl N M e || !ov_zw N e c)) && _) = _
        rw [g, Bool.true_and]
      rw [this] at hp
      exact hp
    refine br_f (nI_ge (by omega) (by omega)) (pk_eq e c (fun g => nm_r (nI_1 e) (key (by rw [decide_eq_true g, Bool.true_or]))) (fun g => ⟨pk_in e 243 (by omega), ?_⟩))
    rw [ee, hm]
    refine ov_br _ (fun g2 => nm_r (nI_1 e) (key (by rw [g2]; simp))) (fun g2 => ov_yw _ N hN sz hz base md fo e c (by omega) (by omega) (ov_br _ (fun g3 => nm_r (nI_1 e) (key (by rw [g3]; simp))) (fun g3 => ?_)))
    have : ov_al (fun d => decide (d = c) || (!ov_fl N M d || !ov_zw N d c)) (d + 1) e = false := by
      show ((decide (e = c) || (!ov_fl N M e || !ov_zw N e c)) && _) = false
      rw [decide_eq_false g, g2, g3]
      rfl
    rw [this] at hp
    exact hp
theorem ov_yprime (post : Int32 → Prop) (N : Nat) (hN : N ≤ 5) (sz : Nat) (hz : sz ≤ 12) (base md fo : Nat → Int32) (M : Nat → Bool) (hf : ov_Fo N fo M) (c : Nat) (hc : c < 3 ^ N) (hp : post (ov_bI (ov_pr N M c))) : wpY_isPrime post (nI N, nI (3 ^ N), nI sz, base, md, fo) (nI c) := by
  have h3 := ov_p3 hN
  have ec : (nI c).toNatClampNeg = c := nI_clamp (by omega)
  have hm := hf c hc
  unfold wpY_isPrime
  dsimp only
  refine ⟨pk_in c 243 (by omega), ?_⟩
  rw [ec, hm]
  unfold ov_pr at hp
  refine ov_br _ (fun g => ?_) (fun g => ⟨3 ^ N + 1, ov_yp13 post N hN sz hz base md fo M hf c hc (3 ^ N) 0 (by omega) ?_⟩)
  · rw [g] at hp
    exact hp
  · rw [g] at hp
    exact hp
end
section
/-! the reference: its calls -/
theorem ov_bad {N : Nat} (hN : N ≤ 5) {x : Int32} (g : x < 0 ∨ nI (3 ^ N) ≤ x) {c : Nat} (hc : c < 3 ^ N) (e : x = nI c) : False := by
  have h3 := ov_p3 hN
  subst e
  rcases g with g | g
  · exact nI_pos (by omega) g
  · exact nI_ge hc (by omega) g
theorem ov_yadd (post : Int32 → SY → Prop) (N : Nat) (hN : N ≤ 5) (sz : Nat) (hz : sz ≤ 12) (base md fo : Nat → Int32) (x : Int32) (h0 : (x < 0 ∨ nI (3 ^ N) ≤ x) → post (-1) (nI N, nI (3 ^ N), nI sz, base, md, fo)) (h1 : ∀ c, c < 3 ^ N → x = nI c → ∀ i, i < sz → base i = x → post 0 (nI N, nI (3 ^ N), nI sz, base, md, fo)) (h2 : ∀ c, c < 3 ^ N → x = nI c → (∀ i, i < sz → base i ≠ x) → sz = 12 → post (-3) (nI N, nI (3 ^ N), nI sz, base, md, fo)) (h3 : ∀ c, c < 3 ^ N → x = nI c → (∀ i, i < sz → base i ≠ x) → sz < 12 → post 1 (nI N, nI (3 ^ N), nI (sz + 1), upd base sz x, md, fo)) : wpY_add post (nI N, nI (3 ^ N), nI sz, base, md, fo) x := by
  unfold wpY_add
  dsimp only
  have es : (nI sz).toNatClampNeg = sz := nI_clamp (by omega)
  refine ov_yis _ N hN sz hz base md fo x (fun g => br_t rfl (h0 g)) (fun c hc e => br_f (by decide) ?_)
  refine ov_ypl _ N hN sz hz base md fo x (fun i hi g => br_f (nI_pos (by omega)) (h1 c hc e i hi g)) (fun g => br_t (by decide) ?_)
  exact pk_eq sz 12 (fun q => h2 c hc e g q) (fun q => ⟨pk_in sz 12 (by omega), nm_r (e' := upd base sz x) (by rw [es]) (nm_r (nI_1 sz) (h3 c hc e g (by omega)))⟩)
theorem ov_yret (post : Int32 → SY → Prop) (N : Nat) (hN : N ≤ 5) (sz : Nat) (hz : sz ≤ 12) (base md fo : Nat → Int32) (x : Int32) (h0 : (x < 0 ∨ nI (3 ^ N) ≤ x) → post (-1) (nI N, nI (3 ^ N), nI sz, base, md, fo)) (h1 : ∀ c, c < 3 ^ N → x = nI c → ∀ i, i < sz → base i = x → post 1 (nI N, nI (3 ^ N), nI (sz - 1), upd base i (base (sz - 1)), md, fo)) (h2 : ∀ c, c < 3 ^ N → x = nI c → (∀ i, i < sz → base i ≠ x) → post 0 (nI N, nI (3 ^ N), nI sz, base, md, fo)) : wpY_retract post (nI N, nI (3 ^ N), nI sz, base, md, fo) x := by
  unfold wpY_retract
  dsimp only
  have es : (nI (sz - 1)).toNatClampNeg = sz - 1 := nI_clamp (by omega)
  refine ov_yis _ N hN sz hz base md fo x (fun g => br_t rfl (h0 g)) (fun c hc e => br_f (by decide) ?_)
  refine ov_ypl _ N hN sz hz base md fo x (fun i hi g => br_t (nI_pos' (by omega)) ?_) (fun g => br_f (by decide) (h2 c hc e g))
  have ei : (nI i).toNatClampNeg = i := nI_clamp (by omega)
  exact nm_r (pk_sub (b := 1) (by omega)) ⟨pk_in (sz - 1) 12 (by omega), pk_in i 12 (by omega), nm_r (e' := upd base i (base (sz - 1))) (by rw [es, ei]) (h1 c hc e i hi g)⟩
theorem ov_yimp (post : Int32 → SY → Prop) (N : Nat) (hN : N ≤ 5) (sz : Nat) (hz : sz ≤ 12) (base md fo : Nat → Int32) (b : Nat → Nat) (hB : ov_Bas N sz base b) (x : Int32) (h0 : (x < 0 ∨ nI (3 ^ N) ≤ x) → post 0 (nI N, nI (3 ^ N), nI sz, base, md, fo)) (h1 : ∀ c, c < 3 ^ N → x = nI c → ∀ md, post (ov_bI (ov_fl N (ov_my N b (-1) sz) c)) (nI N, nI (3 ^ N), nI sz, base, md, fo)) : wpY_implied post (nI N, nI (3 ^ N), nI sz, base, md, fo) x := by
  have h3 := ov_p3 hN
  unfold wpY_implied
  dsimp only
  refine ov_yis _ N hN sz hz base md fo x (fun g => br_t rfl (h0 g)) (fun c hc e => br_f (by decide) ?_)
  refine ov_ymod _ (-1) N hN sz hz base md fo b hB (fun md' hM => ?_)
  exact ov_yfn _ N hN sz hz base md' fo _ hM c (by omega) x e ⟨ov_nb _, h1 c hc e md'⟩
theorem ov_yprimes8 (post : Int32 → SY → Prop) (N : Nat) (hN : N ≤ 5) (sz : Nat) (hz : sz ≤ 12) (base md fo : Nat → Int32) (M : Nat → Bool) (hf : ov_Fo N fo M) : ∀ d c k, c + d = 3 ^ N → post (nI (k + ov_cn (ov_pr N M) d c)) (nI N, nI (3 ^ N), nI sz, base, md, fo) → wY_primes_8 post (nI N) (nI (3 ^ N)) (nI sz) base md fo (d + 1) (nI k) (nI c) := by
  have h3 := ov_p3 hN
  intro d
  induction d with
  | zero =>
    intro c k hc hp
    exact br_t (nI_le (by omega) (by omega)) hp
  | succ d ih =>
    intro c k hc hp
    refine br_f (nI_ge (by omega) (by omega)) (ov_yprime _ N hN sz hz base md fo M hf c (by omega) (ov_br _ (fun g => nm_r (nI_1 c) (ih (c + 1) k (by omega) ?_)) (fun g => nm_r (nI_1 k) (nm_r (nI_1 c) (ih (c + 1) (k + 1) (by omega) ?_)))))
    · rw [ov_cn_f d g] at hp
      exact hp
    · rw [ov_cn_t d g, ← Nat.add_assoc] at hp
      exact hp
theorem ov_yprimes (post : Int32 → SY → Prop) (N : Nat) (hN : N ≤ 5) (sz : Nat) (hz : sz ≤ 12) (base md fo : Nat → Int32) (b : Nat → Nat) (hB : ov_Bas N sz base b) (hp : ∀ md fo, post (nI (ov_cn (ov_pr N (ov_my N b (-1) sz)) (3 ^ N) 0)) (nI N, nI (3 ^ N), nI sz, base, md, fo)) : wpY_primes post (nI N, nI (3 ^ N), nI sz, base, md, fo) := by
  unfold wpY_primes
  dsimp only
  refine ov_yff _ N hN sz hz base md fo b hB (fun md' fo' hM hf => ⟨3 ^ N + 1, ov_yprimes8 post N hN sz hz base md' fo' _ hf (3 ^ N) 0 0 (by omega) ?_⟩)
  rw [Nat.zero_add]
  exact hp md' fo'
theorem ov_yprime8 (post : Int32 → SY → Prop) (N : Nat) (hN : N ≤ 5) (sz : Nat) (hz : sz ≤ 12) (base md fo : Nat → Int32) (M : Nat → Bool) (hf : ov_Fo N fo M) (k : Int32) : ∀ d c b, c + d = 3 ^ N → post (ov_kp k (ov_pr N M) d c b) (nI N, nI (3 ^ N), nI sz, base, md, fo) → wY_prime_8 post k (nI N) (nI (3 ^ N)) (nI sz) base md fo (d + 1) (nI b) (nI c) := by
  have h3 := ov_p3 hN
  intro d
  induction d with
  | zero =>
    intro c b hc hp
    exact br_t (nI_le (by omega) (by omega)) hp
  | succ d ih =>
    intro c b hc hp
    refine br_f (nI_ge (by omega) (by omega)) (ov_yprime _ N hN sz hz base md fo M hf c (by omega) (ov_br _ (fun g => nm_r (nI_1 c) (ih (c + 1) b (by omega) ?_)) (fun g => br_c (fun e => ?_) (fun e => nm_r (nI_1 b) (nm_r (nI_1 c) (ih (c + 1) (b + 1) (by omega) ?_))))))
    · rw [ov_kp_f d b g] at hp
      exact hp
    · rw [ov_kp_t d b g e] at hp
      exact hp
    · rw [ov_kp_n d b g e] at hp
      exact hp
theorem ov_yprimek (post : Int32 → SY → Prop) (N : Nat) (hN : N ≤ 5) (sz : Nat) (hz : sz ≤ 12) (base md fo : Nat → Int32) (b : Nat → Nat) (hB : ov_Bas N sz base b) (k : Int32) (hp : ∀ md fo, post (ov_kp k (ov_pr N (ov_my N b (-1) sz)) (3 ^ N) 0 0) (nI N, nI (3 ^ N), nI sz, base, md, fo)) : wpY_prime post (nI N, nI (3 ^ N), nI sz, base, md, fo) k := by
  unfold wpY_prime
  dsimp only
  exact ov_yff _ N hN sz hz base md fo b hB (fun md' fo' hM hf => ⟨3 ^ N + 1, ov_yprime8 post N hN sz hz base md' fo' _ hf k (3 ^ N) 0 0 (by omega) (hp md' fo')⟩)
theorem ov_ypw16 (post : Int32 → SY → Prop) (N : Nat) (hN : N ≤ 5) (sz : Nat) (hz : sz ≤ 12) (base md fo : Nat → Int32) (M : Nat → Bool) (hf : ov_Fo N fo M) (o : Nat) (ho : o < 3 ^ N) : ∀ d c, c + d = 3 ^ N → post (ov_ff (fun e => ov_zw N e o && ov_pr N M e) d c) (nI N, nI (3 ^ N), nI sz, base, md, fo) → wY_primeWithin_16 post (nI o) (nI N) (nI (3 ^ N)) (nI sz) base md fo (d + 1) (nI c) := by
  have h3 := ov_p3 hN
  intro d
  induction d with
  | zero =>
    intro c hc hp
    exact br_t (nI_le (by omega) (by omega)) hp
  | succ d ih =>
    intro c hc hp
    refine br_f (nI_ge (by omega) (by omega)) (ov_yw _ N hN sz hz base md fo c o (by omega) (by omega) (ov_br _ (fun g => nm_r (nI_1 c) (ih (c + 1) (by omega) ?_)) (fun g => ov_yprime _ N hN sz hz base md fo M hf c (by omega) (ov_br _ (fun e => nm_r (nI_1 c) (ih (c + 1) (by omega) ?_)) (fun e => ?_)))))
    · rw [ov_ff_f d (by rw [g, Bool.false_and])] at hp
      exact hp
    · rw [ov_ff_f d (by rw [e, Bool.and_false])] at hp
      exact hp
    · rw [ov_ff_t d (by rw [g, e, Bool.and_true])] at hp
      exact hp
theorem ov_ypw (post : Int32 → SY → Prop) (N : Nat) (hN : N ≤ 5) (sz : Nat) (hz : sz ≤ 12) (base md fo : Nat → Int32) (b : Nat → Nat) (hB : ov_Bas N sz base b) (x : Int32) (h0 : (x < 0 ∨ nI (3 ^ N) ≤ x) → post (-1) (nI N, nI (3 ^ N), nI sz, base, md, fo)) (h1 : ∀ c, c < 3 ^ N → x = nI c → ∀ md fo, post (ov_ff (fun e => ov_zw N e c && ov_pr N (ov_my N b (-1) sz) e) (3 ^ N) 0) (nI N, nI (3 ^ N), nI sz, base, md, fo)) : wpY_primeWithin post (nI N, nI (3 ^ N), nI sz, base, md, fo) x := by
  unfold wpY_primeWithin
  dsimp only
  refine ov_yis _ N hN sz hz base md fo x (fun g => br_t rfl (h0 g)) (fun c hc e => br_f (by decide) ?_)
  subst e
  exact ov_yff _ N hN sz hz base md fo b hB (fun md' fo' hM hf => ⟨3 ^ N + 1, ov_ypw16 post N hN sz hz base md' fo' _ hf c hc (3 ^ N) 0 (by omega) (h1 c hc rfl md' fo')⟩)
theorem ov_ymod9 (post : Int32 → SY → Prop) (N : Nat) (hN : N ≤ 5) (sz : Nat) (hz : sz ≤ 12) (base md fo : Nat → Int32) (M : Nat → Bool) (hM : ov_Md N md M) : ∀ d a k, a + d = 2 ^ N → post (nI (k + ov_cn M d a)) (nI N, nI (3 ^ N), nI sz, base, md, fo) → wY_models_9 post (nI N) (nI (3 ^ N)) (nI sz) base md fo (d + 1) (nI k) (nI a) := by
  have h2 := ov_p2 hN
  intro d
  induction d with
  | zero =>
    intro a k ha hp
    exact br_t (by rw [ov_sh1 N (by omega)]; exact nI_le (by omega) (by omega)) hp
  | succ d ih =>
    intro a k ha hp
    have ea : (nI a).toNatClampNeg = a := nI_clamp (by omega)
    refine br_f (by rw [ov_sh1 N (by omega)]; exact nI_ge (by omega) (by omega)) ⟨pk_in a 32 (by omega), ?_⟩
    rw [ea, hM a (by omega)]
    refine ov_br _ (fun g => nm_r (nI_1 a) (ih (a + 1) k (by omega) ?_)) (fun g => nm_r (nI_1 k) (nm_r (nI_1 a) (ih (a + 1) (k + 1) (by omega) ?_)))
    · rw [ov_cn_f d g] at hp
      exact hp
    · rw [ov_cn_t d g, ← Nat.add_assoc] at hp
      exact hp
theorem ov_ymods (post : Int32 → SY → Prop) (N : Nat) (hN : N ≤ 5) (sz : Nat) (hz : sz ≤ 12) (base md fo : Nat → Int32) (b : Nat → Nat) (hB : ov_Bas N sz base b) (hp : ∀ md, post (nI (ov_cn (ov_my N b (-1) sz) (2 ^ N) 0)) (nI N, nI (3 ^ N), nI sz, base, md, fo)) : wpY_models post (nI N, nI (3 ^ N), nI sz, base, md, fo) := by
  unfold wpY_models
  dsimp only
  refine ov_ymod _ (-1) N hN sz hz base md fo b hB (fun md' hM => ⟨2 ^ N + 1, ov_ymod9 post N hN sz hz base md' fo _ hM (2 ^ N) 0 0 (by omega) ?_⟩)
  rw [Nat.zero_add]
  exact hp md'
theorem ov_ylm19 (post : Int32 → SY → Prop) (N : Nat) (hN : N ≤ 5) (sz : Nat) (hz : sz ≤ 12) (base md fo : Nat → Int32) (M : Nat → Bool) (hM : ov_Md N md M) (vs mk : Int32) : ∀ d a, a + d = 2 ^ N → post (ov_ff (fun e => M e && decide (((nI e ^^^ vs) &&& mk) = 0)) d a) (nI N, nI (3 ^ N), nI sz, base, md, fo) → wY_leastModel_19 post vs mk (nI N) (nI (3 ^ N)) (nI sz) base md fo (d + 1) (nI a) := by
  have h2 := ov_p2 hN
  intro d
  induction d with
  | zero =>
    intro a ha hp
    exact br_t (by rw [ov_sh1 N (by omega)]; exact nI_le (by omega) (by omega)) hp
  | succ d ih =>
    intro a ha hp
    have ea : (nI a).toNatClampNeg = a := nI_clamp (by omega)
    refine br_f (by rw [ov_sh1 N (by omega)]; exact nI_ge (by omega) (by omega)) ⟨pk_in a 32 (by omega), ?_⟩
    rw [ea, hM a (by omega)]
    refine ov_br _ (fun g => nm_r (nI_1 a) (ih (a + 1) (by omega) ?_)) (fun g => br_c (fun z => ?_) (fun z => nm_r (nI_1 a) (ih (a + 1) (by omega) ?_)))
    · rw [ov_ff_f d (by rw [g, Bool.false_and])] at hp
      exact hp
    · rw [ov_ff_t d (by rw [g, decide_eq_true z, Bool.and_true])] at hp
      exact hp
    · rw [ov_ff_f d (by rw [decide_eq_false z, Bool.and_false])] at hp
      exact hp
theorem ov_ylm (post : Int32 → SY → Prop) (N : Nat) (hN : N ≤ 5) (sz : Nat) (hz : sz ≤ 12) (base md fo : Nat → Int32) (b : Nat → Nat) (hB : ov_Bas N sz base b) (fx vs : Int32) (hp : ∀ md, post (ov_ff (fun e => ov_my N b (-1) sz e && decide (((nI e ^^^ vs) &&& (fx &&& (nI (2 ^ N) - 1))) = 0)) (2 ^ N) 0) (nI N, nI (3 ^ N), nI sz, base, md, fo)) : wpY_leastModel post (nI N, nI (3 ^ N), nI sz, base, md, fo) fx vs := by
  unfold wpY_leastModel
  dsimp only
  refine ov_ymod _ (-1) N hN sz hz base md fo b hB (fun md' hM => nm_r (e' := fx &&& (nI (2 ^ N) - 1)) (by rw [ov_sh1 N (by omega)]) ⟨2 ^ N + 1, ov_ylm19 post N hN sz hz base md' fo _ hM vs _ (2 ^ N) 0 (by omega) (hp md')⟩)
def ov_ry (N : Nat) (b : Nat → Nat) (sz i : Nat) : Bool := ov_fl N (ov_my N b (nI i) sz) (b i)
theorem ov_yred4 (post : Int32 → SY → Prop) (N : Nat) (hN : N ≤ 5) (sz : Nat) (hz : sz ≤ 12) (base fo : Nat → Int32) (b : Nat → Nat) (hB : ov_Bas N sz base b) : ∀ d i k md, i + d = sz → (∀ md, post (nI (k + ov_cn (ov_ry N b sz) d i)) (nI N, nI (3 ^ N), nI sz, base, md, fo)) → wY_redundant_4 post (d + 1) (nI k) (nI i) (nI N) (nI (3 ^ N)) (nI sz) base md fo := by
  have h3 := ov_p3 hN
  intro d
  induction d with
  | zero =>
    intro i k md hi hp
    exact br_t (nI_le (by omega) (by omega)) (hp md)
  | succ d ih =>
    intro i k md hi hp
    have ei : (nI i).toNatClampNeg = i := nI_clamp (by omega)
    have hb := hB i (by omega)
    refine br_f (nI_ge (by omega) (by omega)) (ov_ymod _ (nI i) N hN sz hz base md fo b hB (fun md' hM => ⟨pk_in i 12 (by omega), ov_yfn _ N hN sz hz base md' fo _ hM (b i) (by omega) _ (by rw [ei]; exact hb.2) (ov_br _ (fun g => nm_r (nI_1 i) (ih (i + 1) k md' (by omega) (fun m => ?_))) (fun g => nm_r (nI_1 k) (nm_r (nI_1 i) (ih (i + 1) (k + 1) md' (by omega) (fun m => ?_)))))⟩))
    · have := hp m
      rw [ov_cn_f (p := ov_ry N b sz) d g] at this
      exact this
    · have := hp m
      rw [ov_cn_t (p := ov_ry N b sz) d g, ← Nat.add_assoc] at this
      exact this
theorem ov_yred (post : Int32 → SY → Prop) (N : Nat) (hN : N ≤ 5) (sz : Nat) (hz : sz ≤ 12) (base md fo : Nat → Int32) (b : Nat → Nat) (hB : ov_Bas N sz base b) (hp : ∀ md, post (nI (ov_cn (ov_ry N b sz) sz 0)) (nI N, nI (3 ^ N), nI sz, base, md, fo)) : wpY_redundant post (nI N, nI (3 ^ N), nI sz, base, md, fo) :=
  ⟨sz + 1, ov_yred4 post N hN sz hz base fo b hB sz 0 0 md (by omega) (fun m => by rw [Nat.zero_add]; exact hp m)⟩
theorem ov_y54 (post : SY → Prop) (N : Nat) (h2 : 2 ≤ N) (h5 : N ≤ 5) (fn fc fs : Int32) (base md fo : Nat → Int32) (hp : post (nI N, nI (3 ^ N), fs, base, md, fo)) : wY_init_54 post (nI N) fn fc fs base md fo := by
  rcases (show N = 2 ∨ N = 3 ∨ N = 4 ∨ N = 5 by omega) with e | e | e | e <;> subst e
  · exact br_t rfl hp
  · exact br_f (by decide) (br_t rfl hp)
  · exact br_f (by decide) (br_f (by decide) (br_t rfl hp))
  · exact br_f (by decide) (br_f (by decide) (br_f (by decide) hp))
end
section
/-! the relation, and what it says of both sets of models -/
def i_Rel (_k : Nat) (u : SX) (v : SY) : Prop := ∃ (N sz : Nat) (fal : Nat → Int64) (inb base md fo : Nat → Int32) (b : Nat → Nat), N ≤ 5 ∧ sz ≤ 12 ∧ u = (nI N, nI (3 ^ N), nI (2 ^ N), nI sz, fal, inb) ∧ v = (nI N, nI (3 ^ N), nI sz, base, md, fo) ∧ ov_Fal N fal ∧ ov_Bas N sz base b ∧ (∀ i j, i < sz → j < sz → b i = b j → i = j) ∧ (∀ c, c < 3 ^ N → (inb c = 0 ↔ ∀ i, i < sz → b i ≠ c))
theorem ov_mm {N sz : Nat} {inb base : Nat → Int32} {b : Nat → Nat} (hB : ov_Bas N sz base b) (hI : ∀ c, c < 3 ^ N → (inb c = 0 ↔ ∀ i, i < sz → b i ≠ c)) (lx ly : Int32) (hl : ∀ i, i < sz → (nI (b i) = lx ↔ nI i = ly)) (j : Nat) : ov_mx N inb lx (3 ^ N) j = ov_my N b ly sz j := by
  unfold ov_mx ov_my
  rw [Bool.eq_iff_iff, ov_al0, ov_al0]
  constructor
  · intro h i hi
    have hb := (hB i hi).1
    have g := h (b i) hb
    unfold ov_mq at g
    unfold ov_yq
    have hn : ¬ inb (b i) = 0 := fun z => (hI (b i) hb).mp z i hi rfl
    rw [decide_eq_false hn, Bool.false_or, decide_eq_decide.mpr (hl i hi)] at g
    exact g
  · intro h c hc
    unfold ov_mq
    by_cases z : inb c = 0
    · rw [decide_eq_true z, Bool.true_or]
    · have : ∃ i, i < sz ∧ b i = c := by
        apply Classical.byContradiction
        intro n
        exact z ((hI c hc).mpr fun i hi e => n ⟨i, hi, e⟩)
      obtain ⟨i, hi, e⟩ := this
      subst e
      have g := h i hi
      unfold ov_yq at g
      rw [decide_eq_false z, Bool.false_or, decide_eq_decide.mpr (hl i hi)]
      exact g
theorem ov_m1 {n : Nat} (h : n < 2 ^ 31) : ¬ nI n = -1 := fun e => nI_pos h (by rw [e]; decide)
theorem ov_mm1 {N sz : Nat} (hN : N ≤ 5) (hz : sz ≤ 12) {inb base : Nat → Int32} {b : Nat → Nat} (hB : ov_Bas N sz base b) (hI : ∀ c, c < 3 ^ N → (inb c = 0 ↔ ∀ i, i < sz → b i ≠ c)) (j : Nat) : ov_mx N inb (-1) (3 ^ N) j = ov_my N b (-1) sz j := by
  have h3 := ov_p3 hN
  exact ov_mm hB hI (-1) (-1) (fun i hi => ⟨fun e => absurd e (ov_m1 (by have := (hB i hi).1; omega)), fun e => absurd e (ov_m1 (by omega))⟩) j
theorem ov_fl_cg {N : Nat} {M M' : Nat → Bool} (h : ∀ j, M j = M' j) (c : Nat) : ov_fl N M c = ov_fl N M' c := by rw [show M = M' from funext h]
theorem ov_red {N sz : Nat} (hN : N ≤ 5) (hz : sz ≤ 12) {inb base : Nat → Int32} {b : Nat → Nat} (hB : ov_Bas N sz base b) (hJ : ∀ i j, i < sz → j < sz → b i = b j → i = j) (hI : ∀ c, c < 3 ^ N → (inb c = 0 ↔ ∀ i, i < sz → b i ≠ c)) : ov_cn (ov_ry N b sz) sz 0 = ov_cn (ov_rx N inb) (3 ^ N) 0 := by
  have h3 := ov_p3 hN
  have e1 : ov_cn (ov_ry N b sz) sz 0 = ov_cn (fun i => (fun c => ov_fl N (ov_mx N inb (nI c) (3 ^ N)) c) (b i)) sz 0 := by
    apply ov_cn_cg
    intro i _ hi
    have hi' : i < sz := by omega
    show ov_fl N (ov_my N b (nI i) sz) (b i) = ov_fl N (ov_mx N inb (nI (b i)) (3 ^ N)) (b i)
    refine (ov_fl_cg (fun j => ov_mm hB hI (nI (b i)) (nI i) (fun k hk => ?_) j) (b i)).symm
    have hk1 := (hB k hk).1
    have hi1 := (hB i hi').1
    rw [nI_eq (by omega) (by omega), nI_eq (by omega) (by omega)]
    exact ⟨fun e => hJ k i hk hi' e, fun e => by rw [e]⟩
  rw [e1, ov_cn_sw (fun c => ov_fl N (ov_mx N inb (nI c) (3 ^ N)) c) b (3 ^ N) sz (fun i hi => (hB i hi).1) hJ]
  apply ov_cn_cg
  intro c _ hc
  have hc' : c < 3 ^ N := by omega
  show (ov_an (fun i => decide (b i = c)) sz 0 && _) = (!decide (inb c = 0) && _)
  congr 1
  rw [Bool.eq_iff_iff, ov_an0]
  simp only [decide_eq_true_eq, Bool.not_eq_true', decide_eq_false_iff_not]
  rw [hI c hc']
  constructor
  · intro ⟨i, hi, e⟩ n
    exact n i hi e
  · intro n
    apply Classical.byContradiction
    intro m
    exact n fun i hi e => m ⟨i, hi, e⟩
theorem ov_xadd (post : Int32 → SX → Prop) (N : Nat) (hN : N ≤ 5) (sz : Nat) (hz : sz ≤ 12) (fal : Nat → Int64) (inb : Nat → Int32) (x : Int32) (h0 : (x < 0 ∨ nI (3 ^ N) ≤ x) → post (-1) (nI N, nI (3 ^ N), nI (2 ^ N), nI sz, fal, inb)) (h1 : ∀ c, c < 3 ^ N → x = nI c → inb c ≠ 0 → post 0 (nI N, nI (3 ^ N), nI (2 ^ N), nI sz, fal, inb)) (h2 : ∀ c, c < 3 ^ N → x = nI c → inb c = 0 → sz = 12 → post (-3) (nI N, nI (3 ^ N), nI (2 ^ N), nI sz, fal, inb)) (h3 : ∀ c, c < 3 ^ N → x = nI c → inb c = 0 → sz < 12 → post 1 (nI N, nI (3 ^ N), nI (2 ^ N), nI (sz + 1), fal, upd inb c 1)) : wpX_add post (nI N, nI (3 ^ N), nI (2 ^ N), nI sz, fal, inb) x := by
  have hp := ov_p3 hN
  unfold wpX_add
  dsimp only
  refine ov_xis _ N hN (nI sz) fal inb x (fun g => br_t rfl (h0 g)) (fun c hc e => br_f (by decide) ?_)
  have ec : x.toNatClampNeg = c := by rw [e]; exact nI_clamp (by omega)
  refine ⟨by rw [e]; exact pk_in c 243 (by omega), ?_⟩
  rw [ec]
  exact br_c (fun z => pk_lt sz 12 (fun q => ⟨by rw [e]; exact pk_in c 243 (by omega), nm_r (e' := upd inb c 1) (by rw [ov_t]) (nm_r (nI_1 sz) (h3 c hc e z q))⟩) (fun q => h2 c hc e z (by omega))) (fun z => h1 c hc e z)
theorem ov_xret (post : Int32 → SX → Prop) (N : Nat) (hN : N ≤ 5) (sz : Nat) (hz : sz ≤ 12) (fal : Nat → Int64) (inb : Nat → Int32) (x : Int32) (h0 : (x < 0 ∨ nI (3 ^ N) ≤ x) → post (-1) (nI N, nI (3 ^ N), nI (2 ^ N), nI sz, fal, inb)) (h1 : ∀ c, c < 3 ^ N → x = nI c → inb c = 0 → post 0 (nI N, nI (3 ^ N), nI (2 ^ N), nI sz, fal, inb)) (h2 : ∀ c, c < 3 ^ N → x = nI c → inb c ≠ 0 → post 1 (nI N, nI (3 ^ N), nI (2 ^ N), nI sz - 1, fal, upd inb c 0)) : wpX_retract post (nI N, nI (3 ^ N), nI (2 ^ N), nI sz, fal, inb) x := by
  have hp := ov_p3 hN
  unfold wpX_retract
  dsimp only
  refine ov_xis _ N hN (nI sz) fal inb x (fun g => br_t rfl (h0 g)) (fun c hc e => br_f (by decide) ?_)
  have ec : x.toNatClampNeg = c := by rw [e]; exact nI_clamp (by omega)
  refine ⟨by rw [e]; exact pk_in c 243 (by omega), ?_⟩
  rw [ec]
  exact br_c (fun z => h1 c hc e z) (fun z => ⟨by rw [e]; exact pk_in c 243 (by omega), nm_r (e' := upd inb c 0) (by rw [ov_f]) (nm_e (h2 c hc e z))⟩)
end
section
/-! what is owed -/
theorem i_up {k : Nat} {u : SX} {v : SY} (h : i_Rel k u v) : i_Rel (k + 3) u v := h
theorem ov_init (post : SX → Prop) (N : Nat) (hN : N ≤ 5) (hp : ∀ fal, ov_Fal N fal → post (nI N, nI (3 ^ N), nI (2 ^ N), 0, fal, fun _ => 0)) : wpX_power (fun r_2 => wpX_power (fun r_3 => wpX_fillFalsifiers (fun u => match u with | (f_variables_5, f_clauses_6, f_assignments_7, f_baseSize_8, a_falsifiers_9, a_inBase_10) => post (f_variables_5, f_clauses_6, f_assignments_7, f_baseSize_8, a_falsifiers_9, a_inBase_10)) (nI N, r_2, r_3, 0, (fun _ => 0), (fun _ => 0))) 2 (nI N)) 3 (nI N) := by
  refine ⟨N + 1, ov_xpow _ 3 N hN N 0 1 (by omega) ?_⟩
  rw [Nat.one_mul]
  refine ⟨N + 1, ov_xpow _ 2 N hN N 0 1 (by omega) ?_⟩
  rw [Nat.one_mul]
  exact ov_xfill _ N hN 0 (fun _ => 0) hp
theorem ov_vc0 (N : Nat) (hN : N ≤ 5) (fal : Nat → Int64) (hF : ov_Fal N fal) : i_Rel 1 (nI N, nI (3 ^ N), nI (2 ^ N), 0, fal, fun _ => 0) (nI N, nI (3 ^ N), 0, (fun _ => 0), (fun _ => 0), (fun _ => 0)) :=
  ⟨N, 0, fal, _, _, _, _, fun _ => 0, hN, by omega, rfl, rfl, hF, fun i hi => absurd hi (by omega), fun i j hi => absurd hi (by omega), fun c hc => ⟨fun _ i hi => absurd hi (by omega), fun _ => rfl⟩⟩
theorem i_vc0 (k0 : Int32) : wpX_init (fun u => wpY_init (fun v => i_Rel 1 u v) k0) k0 := by
  unfold wpX_init wpX_clampVariables
  by_cases h2 : 2 ≤ k0
  · refine br_t h2 ?_
    by_cases h5 : k0 ≤ 5
    · refine br_t h5 ?_
      have h0 : ¬ k0 < 0 := fun g => absurd (Int32.lt_of_le_of_lt h2 g) (by decide)
      obtain ⟨N, hN, rfl⟩ := nI_of2 (M := 5) (n := 5) (by decide) h0 h5
      have h2' : 2 ≤ N := (nI_leI (a := 2) (b := N) (by decide) (by omega)).mp h2
      exact ov_init (fun u => wpY_init (fun v => i_Rel 1 u v) (nI N)) N hN (fun fal hF => br_t h2 (br_t h5 (ov_y54 _ N h2' hN 0 0 0 _ _ _ (ov_vc0 N hN fal hF))))
    · refine br_f h5 ?_
      exact ov_init (fun u => wpY_init (fun v => i_Rel 1 u v) k0) 5 (by omega) (fun fal hF => br_t h2 (br_f h5 (ov_y54 _ 5 (by omega) (by omega) 0 0 0 _ _ _ (ov_vc0 5 (by omega) fal hF))))
  · refine br_f h2 ?_
    exact ov_init (fun u => wpY_init (fun v => i_Rel 1 u v) k0) 2 (by omega) (fun fal hF => br_f h2 (ov_y54 _ 2 (by omega) (by omega) 0 0 0 _ _ _ (ov_vc0 2 (by omega) fal hF)))
theorem i_vc_add {k : Nat} {u : SX} {v : SY} (I : i_Rel k u v) (hk : k + 3 ≤ 1537) (v1 : Int32) : wpX_add (fun r u' => wpY_add (fun r' v' => r' = r ∧ i_Rel (k + 3) u' v') v v1) u v1 := by
  have I0 := I
  obtain ⟨N, sz, fal, inb, base, md, fo, b, hN, hz, rfl, rfl, hF, hB, hJ, hI⟩ := I
  have h3 := ov_p3 hN
  have nin : ∀ c, c < 3 ^ N → inb c = 0 → ∀ i, i < sz → base i = nI c → False := by
    intro c hc z i hi e
    have hb := hB i hi
    rw [hb.2, nI_eq (by omega) (by omega)] at e
    exact (hI c hc).mp z i hi e
  have yin : ∀ c, c < 3 ^ N → inb c ≠ 0 → (∀ i, i < sz → base i ≠ nI c) → False := by
    intro c hc z n
    refine z ((hI c hc).mpr fun i hi e => n i hi ?_)
    rw [(hB i hi).2, e]
  refine ov_xadd _ N hN sz hz fal inb v1 (fun g => ?_) (fun c hc e z => ?_) (fun c hc e z q => ?_) (fun c hc e z q => ?_)
  · exact ov_yadd _ N hN sz hz base md fo v1 (fun _ => ⟨rfl, I0⟩) (fun c hc e => absurd g (fun g => ov_bad hN g hc e)) (fun c hc e => absurd g (fun g => ov_bad hN g hc e)) (fun c hc e => absurd g (fun g => ov_bad hN g hc e))
  · subst e
    exact ov_yadd _ N hN sz hz base md fo (nI c) (fun g => absurd g (fun g => ov_bad hN g hc rfl)) (fun _ _ _ _ _ _ => ⟨rfl, I0⟩) (fun _ _ _ n => (yin c hc z n).elim) (fun _ _ _ n => (yin c hc z n).elim)
  · subst e
    exact ov_yadd _ N hN sz hz base md fo (nI c) (fun g => absurd g (fun g => ov_bad hN g hc rfl)) (fun _ _ _ i hi g => (nin c hc z i hi g).elim) (fun _ _ _ _ _ => ⟨rfl, I0⟩) (fun _ _ _ _ q' => absurd q (by omega))
  · subst e
    refine ov_yadd _ N hN sz hz base md fo (nI c) (fun g => absurd g (fun g => ov_bad hN g hc rfl)) (fun _ _ _ i hi g => (nin c hc z i hi g).elim) (fun _ _ _ _ q' => absurd q (by omega)) (fun _ _ _ _ _ => ⟨rfl, ?_⟩)
    have hn := (hI c hc).mp z
    refine ⟨N, sz + 1, fal, _, _, md, fo, (fun i => if i = sz then c else b i), hN, by omega, rfl, rfl, hF, fun i hi => ?_, fun i j hi hj => ?_, fun c' hc' => ?_⟩
    · by_cases e : i = sz
      · subst e
        show (if i = i then c else b i) < 3 ^ N ∧ upd base i (nI c) i = nI (if i = i then c else b i)
        rw [if_pos rfl, pk_us]
        exact ⟨hc, rfl⟩
      · show (if i = sz then c else b i) < 3 ^ N ∧ upd base sz (nI c) i = nI (if i = sz then c else b i)
        rw [if_neg e, pk_un e]
        exact hB i (by omega)
    · show (if i = sz then c else b i) = (if j = sz then c else b j) → i = j
      by_cases e : i = sz <;> by_cases e' : j = sz
      · intro _; omega
      · rw [if_pos e, if_neg e']
        intro g
        exact absurd g.symm (hn j (by omega))
      · rw [if_neg e, if_pos e']
        intro g
        exact absurd g (hn i (by omega))
      · rw [if_neg e, if_neg e']
        exact hJ i j (by omega) (by omega)
    · show upd inb c 1 c' = 0 ↔ ∀ i, i < sz + 1 → (if i = sz then c else b i) ≠ c'
      by_cases e : c' = c
      · subst e
        rw [pk_us]
        exact ⟨fun g => absurd g (by decide), fun g => absurd (g sz (by omega)) (by rw [if_pos rfl]; exact fun n => n rfl)⟩
      · rw [pk_un e, hI c' hc']
        constructor
        · intro g i hi
          by_cases e2 : i = sz
          · rw [if_pos e2]; exact fun n => e n.symm
          · rw [if_neg e2]; exact g i (by omega)
        · intro g i hi
          have := g i (by omega)
          rw [if_neg (by omega)] at this
          exact this
theorem i_vc_retract {k : Nat} {u : SX} {v : SY} (I : i_Rel k u v) (hk : k + 3 ≤ 1537) (v1 : Int32) : wpX_retract (fun r u' => wpY_retract (fun r' v' => r' = r ∧ i_Rel (k + 3) u' v') v v1) u v1 := by
  have I0 := I
  obtain ⟨N, sz, fal, inb, base, md, fo, b, hN, hz, rfl, rfl, hF, hB, hJ, hI⟩ := I
  have h3 := ov_p3 hN
  have nin : ∀ c, c < 3 ^ N → inb c = 0 → ∀ i, i < sz → base i = nI c → False := by
    intro c hc z i hi e
    have hb := hB i hi
    rw [hb.2, nI_eq (by omega) (by omega)] at e
    exact (hI c hc).mp z i hi e
  have yin : ∀ c, c < 3 ^ N → inb c ≠ 0 → (∀ i, i < sz → base i ≠ nI c) → False := by
    intro c hc z n
    refine z ((hI c hc).mpr fun i hi e => n i hi ?_)
    rw [(hB i hi).2, e]
  refine ov_xret _ N hN sz hz fal inb v1 (fun g => ?_) (fun c hc e z => ?_) (fun c hc e z => ?_)
  · exact ov_yret _ N hN sz hz base md fo v1 (fun _ => ⟨rfl, I0⟩) (fun c hc e => absurd g (fun g => ov_bad hN g hc e)) (fun c hc e => absurd g (fun g => ov_bad hN g hc e))
  · subst e
    exact ov_yret _ N hN sz hz base md fo (nI c) (fun g => absurd g (fun g => ov_bad hN g hc rfl)) (fun _ _ _ i hi g => (nin c hc z i hi g).elim) (fun _ _ _ _ => ⟨rfl, I0⟩)
  · subst e
    refine ov_yret _ N hN sz hz base md fo (nI c) (fun g => absurd g (fun g => ov_bad hN g hc rfl)) (fun _ _ _ i hi g => ⟨rfl, ?_⟩) (fun _ _ _ n => (yin c hc z n).elim)
    have hb := hB i hi
    have ebi : b i = c := by
      have g' := g
      rw [hb.2, nI_eq (by omega) (by omega)] at g'
      exact g'
    refine ⟨N, sz - 1, fal, upd inb c 0, upd base i (base (sz - 1)), md, fo, (fun k => if k = i then b (sz - 1) else b k), hN, by omega, ?_, rfl, hF, fun k hk => ?_, fun k l hk hl => ?_, fun c' hc' => ?_⟩
    · rw [show nI sz - 1 = nI (sz - 1) from pk_sub (b := 1) (by omega)]
    · show (if k = i then b (sz - 1) else b k) < 3 ^ N ∧ upd base i (base (sz - 1)) k = nI (if k = i then b (sz - 1) else b k)
      by_cases e : k = i
      · subst e
        rw [if_pos rfl, pk_us]
        exact hB (sz - 1) (by omega)
      · rw [if_neg e, pk_un e]
        exact hB k (by omega)
    · show (if k = i then b (sz - 1) else b k) = (if l = i then b (sz - 1) else b l) → k = l
      by_cases e : k = i <;> by_cases e' : l = i
      · intro _; omega
      · rw [if_pos e, if_neg e']
        intro g
        have := hJ _ _ (by omega) (by omega) g
        omega
      · rw [if_neg e, if_pos e']
        intro g
        have := hJ _ _ (by omega) (by omega) g
        omega
      · rw [if_neg e, if_neg e']
        exact hJ k l (by omega) (by omega)
    · show upd inb c 0 c' = 0 ↔ ∀ k, k < sz - 1 → (if k = i then b (sz - 1) else b k) ≠ c'
      by_cases e : c' = c
      · subst e
        rw [pk_us]
        refine ⟨fun _ k hk => ?_, fun _ => rfl⟩
        rw [← ebi]
        by_cases e2 : k = i
        · rw [if_pos e2]
          intro g
          have := hJ _ _ (by omega) hi g
          omega
        · rw [if_neg e2]
          intro g
          exact e2 (hJ _ _ (by omega) hi g)
      · rw [pk_un e, hI c' hc']
        constructor
        · intro g k hk
          by_cases e2 : k = i
          · rw [if_pos e2]; exact g (sz - 1) (by omega)
          · rw [if_neg e2]; exact g k (by omega)
        · intro g k hk
          by_cases e2 : k = i
          · rw [e2, ebi]; exact fun n => e n.symm
          · by_cases e3 : k = sz - 1
            · have := g i (by omega)
              rw [if_pos rfl] at this
              rw [e3]
              exact this
            · have := g k (by omega)
              rw [if_neg e2] at this
              exact this
theorem i_vc_size {k : Nat} {u : SX} {v : SY} (I : i_Rel k u v) (hk : k + 3 ≤ 1537) : wpX_size (fun r => wpY_size (fun r' => r' = r ∧ i_Rel (k + 3) u v) v) u := by
  have I0 := I
  obtain ⟨N, sz, fal, inb, base, md, fo, b, hN, hz, rfl, rfl, hF, hB, hJ, hI⟩ := I
  exact ⟨rfl, I0⟩
theorem ov_st {k N sz : Nat} {fal : Nat → Int64} {inb base : Nat → Int32} {b : Nat → Nat} (hN : N ≤ 5) (hz : sz ≤ 12) (hF : ov_Fal N fal) (hB : ov_Bas N sz base b) (hJ : ∀ i j, i < sz → j < sz → b i = b j → i = j) (hI : ∀ c, c < 3 ^ N → (inb c = 0 ↔ ∀ i, i < sz → b i ≠ c)) (md fo : Nat → Int32) : i_Rel k (nI N, nI (3 ^ N), nI (2 ^ N), nI sz, fal, inb) (nI N, nI (3 ^ N), nI sz, base, md, fo) :=
  ⟨N, sz, fal, inb, base, md, fo, b, hN, hz, rfl, rfl, hF, hB, hJ, hI⟩
theorem i_vc_implied {k : Nat} {u : SX} {v : SY} (I : i_Rel k u v) (hk : k + 3 ≤ 1537) (v1 : Int32) : wpX_implied (fun r => wpY_implied (fun r' v' => r' = r ∧ i_Rel (k + 3) u v') v v1) u v1 := by
  obtain ⟨N, sz, fal, inb, base, md, fo, b, hN, hz, rfl, rfl, hF, hB, hJ, hI⟩ := I
  refine ov_ximp _ N hN (nI sz) fal inb hF (ov_my N b (-1) sz) (fun j _ => ov_mm1 hN hz hB hI j) v1 (fun g => ?_) (fun c hc e => ?_)
  · exact ov_yimp _ N hN sz hz base md fo b hB v1 (fun _ => ⟨rfl, ov_st hN hz hF hB hJ hI _ _⟩) (fun c hc e => absurd g (fun g => ov_bad hN g hc e))
  · subst e
    refine ov_yimp _ N hN sz hz base md fo b hB (nI c) (fun g => absurd g (fun g => ov_bad hN g hc rfl)) (fun c' hc' e m => ⟨?_, ov_st hN hz hF hB hJ hI _ _⟩)
    have h3 := ov_p3 hN
    rw [(nI_eq (by omega) (by omega)).mp e]
theorem i_vc_primes {k : Nat} {u : SX} {v : SY} (I : i_Rel k u v) (hk : k + 3 ≤ 1537) : wpX_primes (fun r => wpY_primes (fun r' v' => r' = r ∧ i_Rel (k + 3) u v') v) u := by
  obtain ⟨N, sz, fal, inb, base, md, fo, b, hN, hz, rfl, rfl, hF, hB, hJ, hI⟩ := I
  exact ov_xprimes _ N hN (nI sz) fal inb hF (ov_my N b (-1) sz) (fun j _ => ov_mm1 hN hz hB hI j) (ov_yprimes _ N hN sz hz base md fo b hB (fun m f => ⟨rfl, ov_st hN hz hF hB hJ hI _ _⟩))
theorem i_vc_prime {k : Nat} {u : SX} {v : SY} (I : i_Rel k u v) (hk : k + 3 ≤ 1537) (v1 : Int32) : wpX_prime (fun r => wpY_prime (fun r' v' => r' = r ∧ i_Rel (k + 3) u v') v v1) u v1 := by
  obtain ⟨N, sz, fal, inb, base, md, fo, b, hN, hz, rfl, rfl, hF, hB, hJ, hI⟩ := I
  exact ov_xprimek _ N hN (nI sz) fal inb hF (ov_my N b (-1) sz) (fun j _ => ov_mm1 hN hz hB hI j) v1 (ov_yprimek _ N hN sz hz base md fo b hB v1 (fun m f => ⟨rfl, ov_st hN hz hF hB hJ hI _ _⟩))
theorem i_vc_primeWithin {k : Nat} {u : SX} {v : SY} (I : i_Rel k u v) (hk : k + 3 ≤ 1537) (v1 : Int32) : wpX_primeWithin (fun r => wpY_primeWithin (fun r' v' => r' = r ∧ i_Rel (k + 3) u v') v v1) u v1 := by
  obtain ⟨N, sz, fal, inb, base, md, fo, b, hN, hz, rfl, rfl, hF, hB, hJ, hI⟩ := I
  refine ov_xpw _ N hN (nI sz) fal inb hF (ov_my N b (-1) sz) (fun j _ => ov_mm1 hN hz hB hI j) v1 (fun g => ?_) (fun c hc e => ?_)
  · exact ov_ypw _ N hN sz hz base md fo b hB v1 (fun _ => ⟨rfl, ov_st hN hz hF hB hJ hI _ _⟩) (fun c hc e => absurd g (fun g => ov_bad hN g hc e))
  · subst e
    refine ov_ypw _ N hN sz hz base md fo b hB (nI c) (fun g => absurd g (fun g => ov_bad hN g hc rfl)) (fun c' hc' e m f => ⟨?_, ov_st hN hz hF hB hJ hI _ _⟩)
    have h3 := ov_p3 hN
    rw [(nI_eq (by omega) (by omega)).mp e]
theorem i_vc_models {k : Nat} {u : SX} {v : SY} (I : i_Rel k u v) (hk : k + 3 ≤ 1537) : wpX_models (fun r => wpY_models (fun r' v' => r' = r ∧ i_Rel (k + 3) u v') v) u := by
  obtain ⟨N, sz, fal, inb, base, md, fo, b, hN, hz, rfl, rfl, hF, hB, hJ, hI⟩ := I
  exact ov_xmod _ N hN (nI sz) fal inb hF (ov_my N b (-1) sz) (fun j _ => ov_mm1 hN hz hB hI j) (ov_ymods _ N hN sz hz base md fo b hB (fun m => ⟨rfl, ov_st hN hz hF hB hJ hI _ _⟩))
theorem i_vc_leastModel {k : Nat} {u : SX} {v : SY} (I : i_Rel k u v) (hk : k + 3 ≤ 1537) (v1 : Int32) (v2 : Int32) : wpX_leastModel (fun r => wpY_leastModel (fun r' v' => r' = r ∧ i_Rel (k + 3) u v') v v1 v2) u v1 v2 := by
  obtain ⟨N, sz, fal, inb, base, md, fo, b, hN, hz, rfl, rfl, hF, hB, hJ, hI⟩ := I
  exact ov_xlm _ N hN (nI sz) fal inb hF (ov_my N b (-1) sz) (fun j _ => ov_mm1 hN hz hB hI j) v1 v2 (ov_ylm _ N hN sz hz base md fo b hB v1 v2 (fun m => ⟨rfl, ov_st hN hz hF hB hJ hI _ _⟩))
theorem i_vc_redundant {k : Nat} {u : SX} {v : SY} (I : i_Rel k u v) (hk : k + 3 ≤ 1537) : wpX_redundant (fun r => wpY_redundant (fun r' v' => r' = r ∧ i_Rel (k + 3) u v') v) u := by
  obtain ⟨N, sz, fal, inb, base, md, fo, b, hN, hz, rfl, rfl, hF, hB, hJ, hI⟩ := I
  exact ov_xred _ N hN (nI sz) fal inb hF (ov_yred _ N hN sz hz base md fo b hB (fun m => ⟨by rw [ov_red hN hz hB hJ hI], ov_st hN hz hF hB hJ hI _ _⟩))
end
