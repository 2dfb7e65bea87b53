/-! what is owed -/
theorem i_up {k : Nat} {u : SX} {v : SY} (h : i_Rel k u v) : i_Rel (k + 3) u v := h
theorem ov_init (post : SX → Prop) (N : Nat) (hN : N ≤ 5) (hp : ∀ fal, ov_Fal N fal → post (nI N, nI (3 ^ N), nI (2 ^ N), 0, fal, fun _ => 0)) : wpX_power (fun r_2 => wpX_power (fun r_3 => wpX_fillFalsifiers (fun u => match u with | (f_variables_5, f_clauses_6, f_assignments_7, f_baseSize_8, a_falsifiers_9, a_inBase_10) => post (f_variables_5, f_clauses_6, f_assignments_7, f_baseSize_8, a_falsifiers_9, a_inBase_10)) (nI N, r_2, r_3, 0, (fun _ => 0), (fun _ => 0))) 2 (nI N)) 3 (nI N) := by
  refine ⟨N + 1, ov_xpow _ 3 N hN N 0 1 (by omega) ?_⟩
  rw [Nat.one_mul]
  refine ⟨N + 1, ov_xpow _ 2 N hN N 0 1 (by omega) ?_⟩
  rw [Nat.one_mul]
  exact ov_xfill _ N hN 0 (fun _ => 0) hp
theorem ov_vc0 (N : Nat) (hN : N ≤ 5) (fal : Nat → Int64) (hF : ov_Fal N fal) : i_Rel 1 (nI N, nI (3 ^ N), nI (2 ^ N), 0, fal, fun _ => 0) (nI N, nI (3 ^ N), 0, (fun _ => 0), (fun _ => 0), (fun _ => 0)) :=
  ⟨N, 0, fal, _, _, _, _, fun _ => 0, hN, by omega, rfl, rfl, hF, fun i hi => absurd hi (by omega), fun i j hi => absurd hi (by omega), fun c hc => ⟨fun _ i hi => absurd hi (by omega), fun _ => rfl⟩⟩
theorem i_vc0 (k0 : Int32) : wpX_init (fun u => wpY_init (fun v => i_Rel 1 u v) k0) k0 := by
  unfold wpX_init wpX_clampVariables
  by_cases h2 : 2 ≤ k0
  · refine br_t h2 ?_
    by_cases h5 : k0 ≤ 5
    · refine br_t h5 ?_
      have h0 : ¬ k0 < 0 := fun g => absurd (Int32.lt_of_le_of_lt h2 g) (by decide)
      obtain ⟨N, hN, rfl⟩ := nI_of2 (M := 5) (n := 5) (by decide) h0 h5
      have h2' : 2 ≤ N := (nI_leI (a := 2) (b := N) (by decide) (by omega)).mp h2
      exact ov_init (fun u => wpY_init (fun v => i_Rel 1 u v) (nI N)) N hN (fun fal hF => br_t h2 (br_t h5 (ov_y54 _ N h2' hN 0 0 0 _ _ _ (ov_vc0 N hN fal hF))))
    · refine br_f h5 ?_
      exact ov_init (fun u => wpY_init (fun v => i_Rel 1 u v) k0) 5 (by omega) (fun fal hF => br_t h2 (br_f h5 (ov_y54 _ 5 (by omega) (by omega) 0 0 0 _ _ _ (ov_vc0 5 (by omega) fal hF))))
  · refine br_f h2 ?_
    exact ov_init (fun u => wpY_init (fun v => i_Rel 1 u v) k0) 2 (by omega) (fun fal hF => br_f h2 (ov_y54 _ 2 (by omega) (by omega) 0 0 0 _ _ _ (ov_vc0 2 (by omega) fal hF)))
theorem i_vc_add {k : Nat} {u : SX} {v : SY} (I : i_Rel k u v) (hk : k + 3 ≤ 1537) (v1 : Int32) : wpX_add (fun r u' => wpY_add (fun r' v' => r' = r ∧ i_Rel (k + 3) u' v') v v1) u v1 := by
  have I0 := I
  obtain ⟨N, sz, fal, inb, base, md, fo, b, hN, hz, rfl, rfl, hF, hB, hJ, hI⟩ := I
  have h3 := ov_p3 hN
  have nin : ∀ c, c < 3 ^ N → inb c = 0 → ∀ i, i < sz → base i = nI c → False := by
    intro c hc z i hi e
    have hb := hB i hi
    rw [hb.2, nI_eq (by omega) (by omega)] at e
    exact (hI c hc).mp z i hi e
  have yin : ∀ c, c < 3 ^ N → inb c ≠ 0 → (∀ i, i < sz → base i ≠ nI c) → False := by
    intro c hc z n
    refine z ((hI c hc).mpr fun i hi e => n i hi ?_)
    rw [(hB i hi).2, e]
  refine ov_xadd _ N hN sz hz fal inb v1 (fun g => ?_) (fun c hc e z => ?_) (fun c hc e z q => ?_) (fun c hc e z q => ?_)
  · exact ov_yadd _ N hN sz hz base md fo v1 (fun _ => ⟨rfl, I0⟩) (fun c hc e => absurd g (fun g => ov_bad hN g hc e)) (fun c hc e => absurd g (fun g => ov_bad hN g hc e)) (fun c hc e => absurd g (fun g => ov_bad hN g hc e))
  · subst e
    exact ov_yadd _ N hN sz hz base md fo (nI c) (fun g => absurd g (fun g => ov_bad hN g hc rfl)) (fun _ _ _ _ _ _ => ⟨rfl, I0⟩) (fun _ _ _ n => (yin c hc z n).elim) (fun _ _ _ n => (yin c hc z n).elim)
  · subst e
    exact ov_yadd _ N hN sz hz base md fo (nI c) (fun g => absurd g (fun g => ov_bad hN g hc rfl)) (fun _ _ _ i hi g => (nin c hc z i hi g).elim) (fun _ _ _ _ _ => ⟨rfl, I0⟩) (fun _ _ _ _ q' => absurd q (by omega))
  · subst e
    refine ov_yadd _ N hN sz hz base md fo (nI c) (fun g => absurd g (fun g => ov_bad hN g hc rfl)) (fun _ _ _ i hi g => (nin c hc z i hi g).elim) (fun _ _ _ _ q' => absurd q (by omega)) (fun _ _ _ _ _ => ⟨rfl, ?_⟩)
    have hn := (hI c hc).mp z
    refine ⟨N, sz + 1, fal, _, _, md, fo, (fun i => if i = sz then c else b i), hN, by omega, rfl, rfl, hF, fun i hi => ?_, fun i j hi hj => ?_, fun c' hc' => ?_⟩
    · by_cases e : i = sz
      · subst e
        show (if i = i then c else b i) < 3 ^ N ∧ upd base i (nI c) i = nI (if i = i then c else b i)
        rw [if_pos rfl, pk_us]
        exact ⟨hc, rfl⟩
      · show (if i = sz then c else b i) < 3 ^ N ∧ upd base sz (nI c) i = nI (if i = sz then c else b i)
        rw [if_neg e, pk_un e]
        exact hB i (by omega)
    · show (if i = sz then c else b i) = (if j = sz then c else b j) → i = j
      by_cases e : i = sz <;> by_cases e' : j = sz
      · intro _; omega
      · rw [if_pos e, if_neg e']
        intro g
        exact absurd g.symm (hn j (by omega))
      · rw [if_neg e, if_pos e']
        intro g
        exact absurd g (hn i (by omega))
      · rw [if_neg e, if_neg e']
        exact hJ i j (by omega) (by omega)
    · show upd inb c 1 c' = 0 ↔ ∀ i, i < sz + 1 → (if i = sz then c else b i) ≠ c'
      by_cases e : c' = c
      · subst e
        rw [pk_us]
        exact ⟨fun g => absurd g (by decide), fun g => absurd (g sz (by omega)) (by rw [if_pos rfl]; exact fun n => n rfl)⟩
      · rw [pk_un e, hI c' hc']
        constructor
        · intro g i hi
          by_cases e2 : i = sz
          · rw [if_pos e2]; exact fun n => e n.symm
          · rw [if_neg e2]; exact g i (by omega)
        · intro g i hi
          have := g i (by omega)
          rw [if_neg (by omega)] at this
          exact this
theorem i_vc_retract {k : Nat} {u : SX} {v : SY} (I : i_Rel k u v) (hk : k + 3 ≤ 1537) (v1 : Int32) : wpX_retract (fun r u' => wpY_retract (fun r' v' => r' = r ∧ i_Rel (k + 3) u' v') v v1) u v1 := by
  have I0 := I
  obtain ⟨N, sz, fal, inb, base, md, fo, b, hN, hz, rfl, rfl, hF, hB, hJ, hI⟩ := I
  have h3 := ov_p3 hN
  have nin : ∀ c, c < 3 ^ N → inb c = 0 → ∀ i, i < sz → base i = nI c → False := by
    intro c hc z i hi e
    have hb := hB i hi
    rw [hb.2, nI_eq (by omega) (by omega)] at e
    exact (hI c hc).mp z i hi e
  have yin : ∀ c, c < 3 ^ N → inb c ≠ 0 → (∀ i, i < sz → base i ≠ nI c) → False := by
    intro c hc z n
    refine z ((hI c hc).mpr fun i hi e => n i hi ?_)
    rw [(hB i hi).2, e]
  refine ov_xret _ N hN sz hz fal inb v1 (fun g => ?_) (fun c hc e z => ?_) (fun c hc e z => ?_)
  · exact ov_yret _ N hN sz hz base md fo v1 (fun _ => ⟨rfl, I0⟩) (fun c hc e => absurd g (fun g => ov_bad hN g hc e)) (fun c hc e => absurd g (fun g => ov_bad hN g hc e))
  · subst e
    exact ov_yret _ N hN sz hz base md fo (nI c) (fun g => absurd g (fun g => ov_bad hN g hc rfl)) (fun _ _ _ i hi g => (nin c hc z i hi g).elim) (fun _ _ _ _ => ⟨rfl, I0⟩)
  · subst e
    refine ov_yret _ N hN sz hz base md fo (nI c) (fun g => absurd g (fun g => ov_bad hN g hc rfl)) (fun _ _ _ i hi g => ⟨rfl, ?_⟩) (fun _ _ _ n => (yin c hc z n).elim)
    have hb := hB i hi
    have ebi : b i = c := by
      have g' := g
      rw [hb.2, nI_eq (by omega) (by omega)] at g'
      exact g'
    refine ⟨N, sz - 1, fal, upd inb c 0, upd base i (base (sz - 1)), md, fo, (fun k => if k = i then b (sz - 1) else b k), hN, by omega, ?_, rfl, hF, fun k hk => ?_, fun k l hk hl => ?_, fun c' hc' => ?_⟩
    · rw [show nI sz - 1 = nI (sz - 1) from pk_sub (b := 1) (by omega)]
    · show (if k = i then b (sz - 1) else b k) < 3 ^ N ∧ upd base i (base (sz - 1)) k = nI (if k = i then b (sz - 1) else b k)
      by_cases e : k = i
      · subst e
        rw [if_pos rfl, pk_us]
        exact hB (sz - 1) (by omega)
      · rw [if_neg e, pk_un e]
        exact hB k (by omega)
    · show (if k = i then b (sz - 1) else b k) = (if l = i then b (sz - 1) else b l) → k = l
      by_cases e : k = i <;> by_cases e' : l = i
      · intro _; omega
      · rw [if_pos e, if_neg e']
        intro g
        have := hJ _ _ (by omega) (by omega) g
        omega
      · rw [if_neg e, if_pos e']
        intro g
        have := hJ _ _ (by omega) (by omega) g
        omega
      · rw [if_neg e, if_neg e']
        exact hJ k l (by omega) (by omega)
    · show upd inb c 0 c' = 0 ↔ ∀ k, k < sz - 1 → (if k = i then b (sz - 1) else b k) ≠ c'
      by_cases e : c' = c
      · subst e
        rw [pk_us]
        refine ⟨fun _ k hk => ?_, fun _ => rfl⟩
        rw [← ebi]
        by_cases e2 : k = i
        · rw [if_pos e2]
          intro g
          have := hJ _ _ (by omega) hi g
          omega
        · rw [if_neg e2]
          intro g
          exact e2 (hJ _ _ (by omega) hi g)
      · rw [pk_un e, hI c' hc']
        constructor
        · intro g k hk
          by_cases e2 : k = i
          · rw [if_pos e2]; exact g (sz - 1) (by omega)
          · rw [if_neg e2]; exact g k (by omega)
        · intro g k hk
          by_cases e2 : k = i
          · rw [e2, ebi]; exact fun n => e n.symm
          · by_cases e3 : k = sz - 1
            · have := g i (by omega)
              rw [if_pos rfl] at this
              rw [e3]
              exact this
            · have := g k (by omega)
              rw [if_neg e2] at this
              exact this
theorem i_vc_size {k : Nat} {u : SX} {v : SY} (I : i_Rel k u v) (hk : k + 3 ≤ 1537) : wpX_size (fun r => wpY_size (fun r' => r' = r ∧ i_Rel (k + 3) u v) v) u := by
  have I0 := I
  obtain ⟨N, sz, fal, inb, base, md, fo, b, hN, hz, rfl, rfl, hF, hB, hJ, hI⟩ := I
  exact ⟨rfl, I0⟩
theorem ov_st {k N sz : Nat} {fal : Nat → Int64} {inb base : Nat → Int32} {b : Nat → Nat} (hN : N ≤ 5) (hz : sz ≤ 12) (hF : ov_Fal N fal) (hB : ov_Bas N sz base b) (hJ : ∀ i j, i < sz → j < sz → b i = b j → i = j) (hI : ∀ c, c < 3 ^ N → (inb c = 0 ↔ ∀ i, i < sz → b i ≠ c)) (md fo : Nat → Int32) : i_Rel k (nI N, nI (3 ^ N), nI (2 ^ N), nI sz, fal, inb) (nI N, nI (3 ^ N), nI sz, base, md, fo) :=
  ⟨N, sz, fal, inb, base, md, fo, b, hN, hz, rfl, rfl, hF, hB, hJ, hI⟩
theorem i_vc_implied {k : Nat} {u : SX} {v : SY} (I : i_Rel k u v) (hk : k + 3 ≤ 1537) (v1 : Int32) : wpX_implied (fun r => wpY_implied (fun r' v' => r' = r ∧ i_Rel (k + 3) u v') v v1) u v1 := by
  obtain ⟨N, sz, fal, inb, base, md, fo, b, hN, hz, rfl, rfl, hF, hB, hJ, hI⟩ := I
  refine ov_ximp _ N hN (nI sz) fal inb hF (ov_my N b (-1) sz) (fun j _ => ov_mm1 hN hz hB hI j) v1 (fun g => ?_) (fun c hc e => ?_)
  · exact ov_yimp _ N hN sz hz base md fo b hB v1 (fun _ => ⟨rfl, ov_st hN hz hF hB hJ hI _ _⟩) (fun c hc e => absurd g (fun g => ov_bad hN g hc e))
  · subst e
    refine ov_yimp _ N hN sz hz base md fo b hB (nI c) (fun g => absurd g (fun g => ov_bad hN g hc rfl)) (fun c' hc' e m => ⟨?_, ov_st hN hz hF hB hJ hI _ _⟩)
    have h3 := ov_p3 hN
    rw [(nI_eq (by omega) (by omega)).mp e]
theorem i_vc_primes {k : Nat} {u : SX} {v : SY} (I : i_Rel k u v) (hk : k + 3 ≤ 1537) : wpX_primes (fun r => wpY_primes (fun r' v' => r' = r ∧ i_Rel (k + 3) u v') v) u := by
  obtain ⟨N, sz, fal, inb, base, md, fo, b, hN, hz, rfl, rfl, hF, hB, hJ, hI⟩ := I
  exact ov_xprimes _ N hN (nI sz) fal inb hF (ov_my N b (-1) sz) (fun j _ => ov_mm1 hN hz hB hI j) (ov_yprimes _ N hN sz hz base md fo b hB (fun m f => ⟨rfl, ov_st hN hz hF hB hJ hI _ _⟩))
theorem i_vc_prime {k : Nat} {u : SX} {v : SY} (I : i_Rel k u v) (hk : k + 3 ≤ 1537) (v1 : Int32) : wpX_prime (fun r => wpY_prime (fun r' v' => r' = r ∧ i_Rel (k + 3) u v') v v1) u v1 := by
  obtain ⟨N, sz, fal, inb, base, md, fo, b, hN, hz, rfl, rfl, hF, hB, hJ, hI⟩ := I
  exact ov_xprimek _ N hN (nI sz) fal inb hF (ov_my N b (-1) sz) (fun j _ => ov_mm1 hN hz hB hI j) v1 (ov_yprimek _ N hN sz hz base md fo b hB v1 (fun m f => ⟨rfl, ov_st hN hz hF hB hJ hI _ _⟩))
theorem i_vc_primeWithin {k : Nat} {u : SX} {v : SY} (I : i_Rel k u v) (hk : k + 3 ≤ 1537) (v1 : Int32) : wpX_primeWithin (fun r => wpY_primeWithin (fun r' v' => r' = r ∧ i_Rel (k + 3) u v') v v1) u v1 := by
  obtain ⟨N, sz, fal, inb, base, md, fo, b, hN, hz, rfl, rfl, hF, hB, hJ, hI⟩ := I
  refine ov_xpw _ N hN (nI sz) fal inb hF (ov_my N b (-1) sz) (fun j _ => ov_mm1 hN hz hB hI j) v1 (fun g => ?_) (fun c hc e => ?_)
  · exact ov_ypw _ N hN sz hz base md fo b hB v1 (fun _ => ⟨rfl, ov_st hN hz hF hB hJ hI _ _⟩) (fun c hc e => absurd g (fun g => ov_bad hN g hc e))
  · subst e
    refine ov_ypw _ N hN sz hz base md fo b hB (nI c) (fun g => absurd g (fun g => ov_bad hN g hc rfl)) (fun c' hc' e m f => ⟨?_, ov_st hN hz hF hB hJ hI _ _⟩)
    have h3 := ov_p3 hN
    rw [(nI_eq (by omega) (by omega)).mp e]
theorem i_vc_models {k : Nat} {u : SX} {v : SY} (I : i_Rel k u v) (hk : k + 3 ≤ 1537) : wpX_models (fun r => wpY_models (fun r' v' => r' = r ∧ i_Rel (k + 3) u v') v) u := by
  obtain ⟨N, sz, fal, inb, base, md, fo, b, hN, hz, rfl, rfl, hF, hB, hJ, hI⟩ := I
  exact ov_xmod _ N hN (nI sz) fal inb hF (ov_my N b (-1) sz) (fun j _ => ov_mm1 hN hz hB hI j) (ov_ymods _ N hN sz hz base md fo b hB (fun m => ⟨rfl, ov_st hN hz hF hB hJ hI _ _⟩))
theorem i_vc_leastModel {k : Nat} {u : SX} {v : SY} (I : i_Rel k u v) (hk : k + 3 ≤ 1537) (v1 : Int32) (v2 : Int32) : wpX_leastModel (fun r => wpY_leastModel (fun r' v' => r' = r ∧ i_Rel (k + 3) u v') v v1 v2) u v1 v2 := by
  obtain ⟨N, sz, fal, inb, base, md, fo, b, hN, hz, rfl, rfl, hF, hB, hJ, hI⟩ := I
  exact ov_xlm _ N hN (nI sz) fal inb hF (ov_my N b (-1) sz) (fun j _ => ov_mm1 hN hz hB hI j) v1 v2 (ov_ylm _ N hN sz hz base md fo b hB v1 v2 (fun m => ⟨rfl, ov_st hN hz hF hB hJ hI _ _⟩))
theorem i_vc_redundant {k : Nat} {u : SX} {v : SY} (I : i_Rel k u v) (hk : k + 3 ≤ 1537) : wpX_redundant (fun r => wpY_redundant (fun r' v' => r' = r ∧ i_Rel (k + 3) u v') v) u := by
  obtain ⟨N, sz, fal, inb, base, md, fo, b, hN, hz, rfl, rfl, hF, hB, hJ, hI⟩ := I
  exact ov_xred _ N hN (nI sz) fal inb hF (ov_yred _ N hN sz hz base md fo b hB (fun m => ⟨by rw [ov_red hN hz hB hJ hI], ov_st hN hz hF hB hJ hI _ _⟩))
