/-! the pure picture: loops over a counter as any, all, count, first; digits, satisfies, within, follows, prime -/
def ov_an (p : Nat → Bool) : Nat → Nat → Bool
  | 0, _ => false
  | d + 1, v => p v || ov_an p d (v + 1)
def ov_al (p : Nat → Bool) : Nat → Nat → Bool
  | 0, _ => true
  | d + 1, v => p v && ov_al p d (v + 1)
def ov_cn (p : Nat → Bool) : Nat → Nat → Nat
  | 0, _ => 0
  | d + 1, v => (if p v = true then 1 else 0) + ov_cn p d (v + 1)
def ov_kp (k : Int32) (p : Nat → Bool) : Nat → Nat → Nat → Int32
  | 0, _, _ => -2
  | d + 1, v, b => if p v = true then (if nI b = k then nI v else ov_kp k p d (v + 1) (b + 1)) else ov_kp k p d (v + 1) b
def ov_ff (p : Nat → Bool) : Nat → Nat → Int32
  | 0, _ => -2
  | d + 1, v => if p v = true then nI v else ov_ff p d (v + 1)
def ov_bI (x : Bool) : Int32 := if x = true then 1 else 0
theorem ov_al_iff (p : Nat → Bool) : ∀ d v, ov_al p d v = true ↔ ∀ w, v ≤ w → w < v + d → p w = true := by
  intro d
  induction d with
  | zero => intro v; exact ⟨fun _ w h1 h2 => absurd h2 (by omega), fun _ => rfl⟩
  | succ d ih =>
    intro v
    show (p v && ov_al p d (v + 1)) = true ↔ _
    rw [Bool.and_eq_true, ih]
    constructor
    · intro h w h1 h2
      rcases Nat.eq_or_lt_of_le h1 with e | e
      · rw [← e]; exact h.1
      · exact h.2 w e (by omega)
    · intro h
      exact ⟨h v (Nat.le_refl v) (by omega), fun w h1 h2 => h w (by omega) (by omega)⟩
theorem ov_an_iff (p : Nat → Bool) : ∀ d v, ov_an p d v = true ↔ ∃ w, v ≤ w ∧ w < v + d ∧ p w = true := by
  intro d
  induction d with
  | zero => intro v; exact ⟨fun h => absurd h (show ¬ false = true by decide), fun ⟨w, h1, h2, _⟩ => absurd h2 (by omega)⟩
  | succ d ih =>
    intro v
    show (p v || ov_an p d (v + 1)) = true ↔ _
    rw [Bool.or_eq_true, ih]
    constructor
    · intro h
      rcases h with h | ⟨w, h1, h2, h3⟩
      · exact ⟨v, Nat.le_refl v, by omega, h⟩
      · exact ⟨w, by omega, by omega, h3⟩
    · intro ⟨w, h1, h2, h3⟩
      rcases Nat.eq_or_lt_of_le h1 with e | e
      · exact Or.inl (by rw [e]; exact h3)
      · exact Or.inr ⟨w, e, by omega, h3⟩
theorem ov_al0 (p : Nat → Bool) (n : Nat) : ov_al p n 0 = true ↔ ∀ w, w < n → p w = true := by
  rw [ov_al_iff]
  exact ⟨fun h w hw => h w (Nat.zero_le _) (by omega), fun h w _ hw => h w (by omega)⟩
theorem ov_an0 (p : Nat → Bool) (n : Nat) : ov_an p n 0 = true ↔ ∃ w, w < n ∧ p w = true := by
  rw [ov_an_iff]
  exact ⟨fun ⟨w, _, h, h'⟩ => ⟨w, by omega, h'⟩, fun ⟨w, h, h'⟩ => ⟨w, Nat.zero_le _, by omega, h'⟩⟩
theorem ov_al_sn (p : Nat → Bool) (d : Nat) : ov_al p (d + 1) 0 = (ov_al p d 0 && p d) := by
  rw [Bool.eq_iff_iff, Bool.and_eq_true, ov_al0, ov_al0]
  constructor
  · intro h
    exact ⟨fun w hw => h w (by omega), h d (by omega)⟩
  · intro h w hw
    rcases Nat.eq_or_lt_of_le (Nat.le_of_lt_succ hw) with e | e
    · rw [e]; exact h.2
    · exact h.1 w e
theorem ov_an_sn (p : Nat → Bool) (d : Nat) : ov_an p (d + 1) 0 = (ov_an p d 0 || p d) := by
  rw [Bool.eq_iff_iff, Bool.or_eq_true, ov_an0, ov_an0]
  constructor
  · intro ⟨w, hw, h⟩
    rcases Nat.eq_or_lt_of_le (Nat.le_of_lt_succ hw) with e | e
    · exact Or.inr (by rw [← e]; exact h)
    · exact Or.inl ⟨w, e, h⟩
  · intro h
    rcases h with ⟨w, hw, h⟩ | h
    · exact ⟨w, by omega, h⟩
    · exact ⟨d, by omega, h⟩
theorem ov_al_cg {p q : Nat → Bool} {n : Nat} (h : ∀ w, w < n → p w = q w) : ov_al p n 0 = ov_al q n 0 := by
  rw [Bool.eq_iff_iff, ov_al0, ov_al0]
  exact ⟨fun g w hw => by rw [← h w hw]; exact g w hw, fun g w hw => by rw [h w hw]; exact g w hw⟩
theorem ov_cn_cg {p q : Nat → Bool} : ∀ d v, (∀ w, v ≤ w → w < v + d → p w = q w) → ov_cn p d v = ov_cn q d v := by
  intro d
  induction d with
  | zero => intro v _; rfl
  | succ d ih =>
    intro v h
    show (if p v = true then 1 else 0) + ov_cn p d (v + 1) = (if q v = true then 1 else 0) + ov_cn q d (v + 1)
    rw [h v (Nat.le_refl v) (by omega), ih (v + 1) (fun w h1 h2 => h w (by omega) (by omega))]
theorem ov_cn_sn (p : Nat → Bool) : ∀ d v, ov_cn p (d + 1) v = ov_cn p d v + (if p (v + d) = true then 1 else 0) := by
  intro d
  induction d with
  | zero => intro v; show (if p v = true then 1 else 0) + 0 = 0 + (if p v = true then 1 else 0); omega
  | succ d ih =>
    intro v
    show (if p v = true then 1 else 0) + ov_cn p (d + 1) (v + 1) = ((if p v = true then 1 else 0) + ov_cn p d (v + 1)) + _
    rw [ih (v + 1), show v + 1 + d = v + (d + 1) by omega]
    omega
theorem ov_cn_or (f P : Nat → Bool) (x : Nat) (hx : f x = false) : ∀ d v, v ≤ x → x < v + d → ov_cn (fun c => (f c || decide (x = c)) && P c) d v = ov_cn (fun c => f c && P c) d v + (if P x = true then 1 else 0) := by
  intro d
  induction d with
  | zero => intro v h1 h2; exact absurd h2 (by omega)
  | succ d ih =>
    intro v h1 h2
    show (if ((f v || decide (x = v)) && P v) = true then 1 else 0) + ov_cn (fun c => (f c || decide (x = c)) && P c) d (v + 1) = ((if (f v && P v) = true then 1 else 0) + ov_cn (fun c => f c && P c) d (v + 1)) + _
    rcases Nat.eq_or_lt_of_le h1 with e | e
    · have hc : ov_cn (fun c => (f c || decide (x = c)) && P c) d (v + 1) = ov_cn (fun c => f c && P c) d (v + 1) := by
        apply ov_cn_cg
        intro w g1 g2
        show ((f w || decide (x = w)) && P w) = (f w && P w)
        rw [decide_eq_false (show ¬ x = w by omega), Bool.or_false]
      rw [hc, e, hx, decide_eq_true rfl, Bool.false_or, Bool.true_and, Bool.false_and]
      simp only [Bool.false_eq_true, if_false]
      omega
    · rw [ih (v + 1) e (by omega), decide_eq_false (show ¬ x = v by omega), Bool.or_false]
      omega
theorem ov_cn_sw (P : Nat → Bool) (b : Nat → Nat) (M : Nat) : ∀ s, (∀ i, i < s → b i < M) → (∀ i j, i < s → j < s → b i = b j → i = j) → ov_cn (fun i => P (b i)) s 0 = ov_cn (fun c => ov_an (fun i => decide (b i = c)) s 0 && P c) M 0 := by
  intro s
  induction s with
  | zero =>
    intro _ _
    have : ∀ d v, ov_cn (fun c => ov_an (fun i => decide (b i = c)) 0 0 && P c) d v = 0 := by
      intro d
      induction d with
      | zero => intro v; rfl
      | succ d ih => intro v; show 0 + _ = 0; rw [ih (v + 1)]
    rw [this M 0]
    rfl
  | succ s ih =>
    intro h1 h2
    rw [ov_cn_sn, ih (fun i hi => h1 i (by omega)) (fun i j hi hj => h2 i j (by omega) (by omega))]
    have hf : ov_an (fun i => decide (b i = b s)) s 0 = false := by
      rw [Bool.eq_false_iff]
      intro g
      obtain ⟨w, hw, e⟩ := (ov_an0 _ _).mp g
      exact absurd (h2 w s (by omega) (by omega) (of_decide_eq_true e)) (by omega)
    have := ov_cn_or (fun c => ov_an (fun i => decide (b i = c)) s 0) P (b s) hf M 0 (Nat.zero_le _) (by have := h1 s (by omega); omega)
    rw [Nat.zero_add, ← this]
    apply ov_cn_cg
    intro w _ _
    show ((ov_an (fun i => decide (b i = w)) s 0 || decide (b s = w)) && P w) = (ov_an (fun i => decide (b i = w)) (s + 1) 0 && P w)
    rw [ov_an_sn]
theorem ov_kp_neg {k : Int32} (hk : k < 0) (p : Nat → Bool) : ∀ d v b, b + d < 2 ^ 31 → ov_kp k p d v b = -2 := by
  intro d
  induction d with
  | zero => intro v b _; rfl
  | succ d ih =>
    intro v b hb
    have hn : ¬ nI b = k := fun e => nI_pos (show b < 2 ^ 31 by omega) (e ▸ hk)
    show (if p v = true then (if nI b = k then nI v else ov_kp k p d (v + 1) (b + 1)) else ov_kp k p d (v + 1) b) = -2
    rw [if_neg hn, ih (v + 1) (b + 1) (by omega), ih (v + 1) b (by omega), ite_self]
theorem ov_kp_cg {k : Int32} {p q : Nat → Bool} : ∀ d v b, (∀ w, v ≤ w → w < v + d → p w = q w) → ov_kp k p d v b = ov_kp k q d v b := by
  intro d
  induction d with
  | zero => intro v b _; rfl
  | succ d ih =>
    intro v b h
    show (if p v = true then (if nI b = k then nI v else ov_kp k p d (v + 1) (b + 1)) else ov_kp k p d (v + 1) b) = (if q v = true then (if nI b = k then nI v else ov_kp k q d (v + 1) (b + 1)) else ov_kp k q d (v + 1) b)
    rw [h v (Nat.le_refl v) (by omega), ih (v + 1) (b + 1) (fun w h1 h2 => h w (by omega) (by omega)), ih (v + 1) b (fun w h1 h2 => h w (by omega) (by omega))]
theorem ov_ff_cg {p q : Nat → Bool} : ∀ d v, (∀ w, v ≤ w → w < v + d → p w = q w) → ov_ff p d v = ov_ff q d v := by
  intro d
  induction d with
  | zero => intro v _; rfl
  | succ d ih =>
    intro v h
    show (if p v = true then nI v else ov_ff p d (v + 1)) = (if q v = true then nI v else ov_ff q d (v + 1))
    rw [h v (Nat.le_refl v) (by omega), ih (v + 1) (fun w h1 h2 => h w (by omega) (by omega))]
def ov_sp (a c v : Nat) : Bool := decide (c / 3 ^ v % 3 = if a / 2 ^ v % 2 = 1 then 1 else 2)
def ov_zs (N a c : Nat) : Bool := ov_an (ov_sp a c) N 0
def ov_wp (d c v : Nat) : Bool := decide (d / 3 ^ v % 3 = 0) || decide (d / 3 ^ v % 3 = c / 3 ^ v % 3)
def ov_zw (N d c : Nat) : Bool := ov_al (ov_wp d c) N 0
def ov_fl (N : Nat) (M : Nat → Bool) (c : Nat) : Bool := ov_al (fun j => !M j || ov_zs N j c) (2 ^ N) 0
def ov_pr (N : Nat) (M : Nat → Bool) (c : Nat) : Bool := ov_fl N M c && ov_al (fun d => decide (d = c) || (!ov_fl N M d || !ov_zw N d c)) (3 ^ N) 0
def ov_px (N : Nat) (M : Nat → Bool) (c : Nat) : Bool := ov_fl N M c && ov_al (fun v => decide (c / 3 ^ v % 3 = 0) || !ov_fl N M (c - c / 3 ^ v % 3 * 3 ^ v)) N 0
theorem ov_dgt : ∀ c, c < 243 → ∀ v, v < 5 → ∀ w, w < 5 → (c - c / 3 ^ v % 3 * 3 ^ v) / 3 ^ w % 3 = if w = v then 0 else c / 3 ^ w % 3 := by decide +kernel
theorem ov_dle (c v : Nat) : c / 3 ^ v % 3 * 3 ^ v ≤ c := Nat.le_trans (Nat.mul_le_mul_right _ (Nat.mod_le _ _)) (Nat.div_mul_le_self c (3 ^ v))
theorem ov_ext : ∀ N c d, c < 3 ^ N → d < 3 ^ N → (∀ v, v < N → c / 3 ^ v % 3 = d / 3 ^ v % 3) → c = d := by
  intro N
  induction N with
  | zero => intro c d hc hd _; rw [Nat.pow_zero] at hc hd; omega
  | succ N ih =>
    intro c d hc hd h
    rw [Nat.pow_succ] at hc hd
    have h0 := h 0 (by omega)
    rw [Nat.pow_zero, Nat.div_one, Nat.div_one] at h0
    have h1 : c / 3 = d / 3 := by
      apply ih (c / 3) (d / 3) (by omega) (by omega)
      intro v hv
      have := h (v + 1) (by omega)
      rw [Nat.pow_succ', ← Nat.div_div_eq_div_mul, ← Nat.div_div_eq_div_mul] at this
      exact this
    omega
theorem ov_p3 {N : Nat} (h : N ≤ 5) : 3 ^ N ≤ 243 := Nat.pow_le_pow_right (n := 3) (by decide) h
theorem ov_p2 {N : Nat} (h : N ≤ 5) : 2 ^ N ≤ 32 := Nat.pow_le_pow_right (n := 2) (by decide) h
theorem ov_zs_mono {N a d c : Nat} (h : ∀ v, v < N → d / 3 ^ v % 3 = 0 ∨ d / 3 ^ v % 3 = c / 3 ^ v % 3) (hs : ov_zs N a d = true) : ov_zs N a c = true := by
  obtain ⟨v, hv, e⟩ := (ov_an0 _ _).mp hs
  have e' : d / 3 ^ v % 3 = if a / 2 ^ v % 2 = 1 then 1 else 2 := of_decide_eq_true e
  refine (ov_an0 _ _).mpr ⟨v, hv, decide_eq_true ?_⟩
  rcases h v hv with g | g
  · exfalso
    rw [g] at e'
    split at e' <;> omega
  · rw [← g]; exact e'
theorem ov_fl_iff (N : Nat) (M : Nat → Bool) (c : Nat) : ov_fl N M c = true ↔ ∀ j, j < 2 ^ N → M j = true → ov_zs N j c = true := by
  unfold ov_fl
  rw [ov_al0]
  constructor
  · intro h j hj hm
    have := h j hj
    rw [hm] at this
    exact this
  · intro h j hj
    show (!M j || ov_zs N j c) = true
    cases hm : M j with
    | false => rfl
    | true => exact h j hj hm
theorem ov_fl_mono {N : Nat} {M : Nat → Bool} {d c : Nat} (h : ∀ v, v < N → d / 3 ^ v % 3 = 0 ∨ d / 3 ^ v % 3 = c / 3 ^ v % 3) (hs : ov_fl N M d = true) : ov_fl N M c = true :=
  (ov_fl_iff _ _ _).mpr fun j hj hm => ov_zs_mono h ((ov_fl_iff _ _ _).mp hs j hj hm)
theorem ov_zw_iff (N d c : Nat) : ov_zw N d c = true ↔ ∀ v, v < N → d / 3 ^ v % 3 = 0 ∨ d / 3 ^ v % 3 = c / 3 ^ v % 3 := by
  unfold ov_zw ov_wp
  rw [ov_al0]
  simp only [Bool.or_eq_true, decide_eq_true_eq]
theorem ov_pr_iff (N : Nat) (M : Nat → Bool) (c : Nat) : ov_pr N M c = true ↔ ov_fl N M c = true ∧ ∀ d, d < 3 ^ N → d ≠ c → ov_fl N M d = true → ov_zw N d c = true → False := by
  unfold ov_pr
  rw [Bool.and_eq_true, ov_al0]
  refine and_congr_right fun _ => forall_congr' fun d => forall_congr' fun _ => ?_
  by_cases e : d = c <;> cases ov_fl N M d <;> cases ov_zw N d c <;> simp [e]
theorem ov_px_iff (N : Nat) (M : Nat → Bool) (c : Nat) : ov_px N M c = true ↔ ov_fl N M c = true ∧ ∀ v, v < N → c / 3 ^ v % 3 ≠ 0 → ov_fl N M (c - c / 3 ^ v % 3 * 3 ^ v) = true → False := by
  unfold ov_px
  rw [Bool.and_eq_true, ov_al0]
  refine and_congr_right fun _ => forall_congr' fun v => forall_congr' fun _ => ?_
  by_cases e : c / 3 ^ v % 3 = 0 <;> cases ov_fl N M (c - c / 3 ^ v % 3 * 3 ^ v) <;> simp [e]
theorem ov_px_pr {N : Nat} (hN : N ≤ 5) (M : Nat → Bool) {c : Nat} (hc : c < 3 ^ N) : ov_px N M c = ov_pr N M c := by
  have h3 := ov_p3 hN
  rw [Bool.eq_iff_iff, ov_px_iff, ov_pr_iff]
  refine and_congr_right fun hf => ⟨fun h d hd hne hfd hw => ?_, fun h v hv hdg hfd => ?_⟩
  · have hw' := (ov_zw_iff _ _ _).mp hw
    have : ¬ ∀ v, v < N → d / 3 ^ v % 3 = c / 3 ^ v % 3 := fun g => hne (ov_ext N d c hd hc g)
    obtain ⟨v, hv⟩ := Classical.not_forall.mp this
    obtain ⟨hv, hv2⟩ := Classical.not_imp.mp hv
    have hz : d / 3 ^ v % 3 = 0 := (hw' v hv).resolve_right hv2
    refine h v hv (fun g => hv2 (by rw [hz, g])) (ov_fl_mono (d := d) (fun w hw => ?_) hfd)
    rw [ov_dgt c (by omega) v (by omega) w (by omega)]
    by_cases e : w = v
    · rw [e]; exact Or.inl hz
    · rw [if_neg e]; exact hw' w hw
  · have hle := ov_dle c v
    have hp : 0 < c / 3 ^ v % 3 * 3 ^ v := Nat.mul_pos (Nat.pos_of_ne_zero hdg) (Nat.pow_pos (by decide))
    refine h (c - c / 3 ^ v % 3 * 3 ^ v) (by omega) (by omega) hfd ((ov_zw_iff _ _ _).mpr fun w hw => ?_)
    rw [ov_dgt c (by omega) v (by omega) w (by omega)]
    by_cases e : w = v
    · rw [if_pos e]; exact Or.inl rfl
    · rw [if_neg e]; exact Or.inr rfl
