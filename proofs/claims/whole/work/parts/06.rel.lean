def i_Rel (_ : Nat) (u : SX) (v : SY) : Prop := ∃ C S : Nat → Int32, v = (u, C, S) ∧ ∀ i, i < 4 → C i = nI (aj_FT u i none none) ∧ aj_FT u i none none ≤ 10
theorem i_up {k : Nat} {u : SX} {v : SY} (h : i_Rel k u v) : i_Rel (k + 4) u v := h
theorem aj_FT_nn (h : Nat → Int32) (i : Nat) : aj_FT h i none none = aj_sm (fun x => aj_sm (fun y => aj_T h i x y) 8) 8 := by
  unfold aj_FT
  refine aj_cg (fun x _ => ?_)
  show 1 * _ = _
  rw [Nat.one_mul]
  exact aj_cg (fun y _ => Nat.one_mul _)
theorem aj_FT_same {h h' : Nat → Int32} {i : Nat} (e : ∀ x y, x < 8 → y < 8 → h' ((i * 8 + x) * 8 + y) = h ((i * 8 + x) * 8 + y)) : aj_FT h' i none none = aj_FT h i none none := by
  rw [aj_FT_nn, aj_FT_nn]
  refine aj_cg (fun x hx => aj_cg (fun y hy => ?_))
  unfold aj_T
  rw [e x y hx hy]
theorem aj_FT_step {h h' : Nat → Int32} {i a b : Nat} (ha : a < 8) (hb : b < 8) (h0 : h ((i * 8 + a) * 8 + b) = 0) (h1 : ¬ h' ((i * 8 + a) * 8 + b) = 0) (e : ∀ j, j ≠ (i * 8 + a) * 8 + b → h' j = h j) : aj_FT h' i none none = aj_FT h i none none + 1 := by
  rw [aj_FT_nn, aj_FT_nn]
  have k : ∀ x y, x < 8 → y < 8 → aj_T h' i x y = aj_T h i x y + aj_e x a * aj_e y b := by
    intro x y hx hy
    unfold aj_T
    by_cases ex : x = a
    · subst ex
      by_cases ey : y = b
      · subst ey
        rw [if_neg h1, if_pos h0, aj_e_t rfl, aj_e_t rfl]
      · rw [e _ (by omega), aj_e_f ey, Nat.mul_zero, Nat.add_zero]
    · rw [e _ (by omega), aj_e_f ex, Nat.zero_mul, Nat.add_zero]
  rw [aj_cg (fun x hx => aj_cg (fun y hy => k x y hx hy))]
  rw [aj_cg (g := fun x => aj_sm (fun y => aj_T h i x y) 8 + aj_e x a * aj_sm (fun y => aj_e y b) 8) (fun x _ => by rw [aj_sm_add, aj_sm_mul])]
  rw [aj_sm_add, aj_sm_mulr, aj_sm_one (v := b) hb (fun y _ hn => aj_e_f hn), aj_sm_one (v := a) ha (fun y _ hn => aj_e_f hn), aj_e_t rfl, aj_e_t rfl]
theorem i_vc0 : wpX_init (fun u => wpY_init (fun v => i_Rel 0 u v)) := by
  unfold wpX_init wpY_init
  refine ⟨fun _ => 0, fun _ => 0, rfl, fun i _ => ?_⟩
  have e : aj_FT (fun _ => 0) i none none = 0 := by
    rw [aj_FT_nn]
    exact aj_sm_z (fun x _ => aj_sm_z (fun y _ => if_pos rfl))
  rw [e]
  exact ⟨rfl, by omega⟩
theorem aj_out {v : Int32} {n : Nat} {P Q : Prop} (hv : v < 0 ∨ nI n ≤ v) (hP : P) {w : Int32} (ew : w = nI n := by rfl) : (v < 0 → P) ∧ (¬ v < 0 → ((w ≤ v → P) ∧ (¬ w ≤ v → Q))) := by
  subst ew
  exact br_c (fun _ => hP) (fun h => br_c (fun _ => hP) (fun h2 => (hv.elim h h2).elim))
theorem aj_lts {v : Int32} {m : Nat} (hm : m + 1 < 2 ^ 31) (h : nI (m + 1) ≤ v) : nI m < v := Int32.lt_of_lt_of_le (nI_lt (by omega) hm) h
theorem aj_outl {v : Int32} {m : Nat} {P Q : Prop} (hv : v < 0 ∨ nI (m + 1) ≤ v) (hP : P) {w : Int32} (ew : w = nI m := by rfl) (hm : m + 1 < 2 ^ 31 := by decide) : (v < 0 → P) ∧ (¬ v < 0 → ((w < v → P) ∧ (¬ w < v → Q))) := by
  subst ew
  exact br_c (fun _ => hP) (fun h => br_c (fun _ => hP) (fun h2 => (hv.elim h (fun h3 => h2 (aj_lts hm h3))).elim))
theorem aj_outr {v : Int32} {m : Nat} {P Q : Prop} (hv : v < 0 ∨ nI (m + 1) ≤ v) (hP : P) {w : Int32} (ew : w = nI m := by rfl) (hm : m + 1 < 2 ^ 31 := by decide) : (v < 0 → P) ∧ (¬ v < 0 → ((v ≤ w → Q) ∧ (¬ v ≤ w → P))) := by
  subst ew
  exact br_c (fun _ => hP) (fun h => br_c (fun h2 => (hv.elim h (fun h3 => (Int32.not_le.mpr (aj_lts hm h3)) h2)).elim) (fun _ => hP))
theorem aj_inn {j : Nat} (n : Nat) {P Q : Prop} (hj : j < n) (hn : n < 2 ^ 31) (hQ : Q) {w : Int32} (ew : w = nI n := by rfl) : (nI j < 0 → P) ∧ (¬ nI j < 0 → ((w ≤ nI j → P) ∧ (¬ w ≤ nI j → Q))) := by
  subst ew
  exact br_f (nI_pos (by omega)) (br_f (nI_ge hj hn) hQ)
theorem aj_innl {j : Nat} (m : Nat) {P Q : Prop} (hj : j ≤ m) (hn : m < 2 ^ 31) (hQ : Q) {w : Int32} (ew : w = nI m := by rfl) : (nI j < 0 → P) ∧ (¬ nI j < 0 → ((w < nI j → P) ∧ (¬ w < nI j → Q))) := by
  subst ew
  exact br_f (nI_pos (by omega)) (br_f (nI_nlt hj hn) hQ)
theorem aj_innr {j : Nat} (m : Nat) {P Q : Prop} (hj : j ≤ m) (hn : m < 2 ^ 31) (hQ : Q) {w : Int32} (ew : w = nI m := by rfl) : (nI j < 0 → P) ∧ (¬ nI j < 0 → ((nI j ≤ w → Q) ∧ (¬ nI j ≤ w → P))) := by
  subst ew
  exact br_f (nI_pos (by omega)) (br_t (nI_le hj hn) hQ)
theorem aj_xrow1 {post : Int32 → Prop} {i a b : Nat} (hi : i < 4) (ha : a < 8) (hb : b < 8) (hp : post 1) : wpX_isRow post (nI i) (nI a) (nI b) := by
  unfold wpX_isRow
  refine aj_inn 4 hi (by decide) ?_
  refine br_f (by decide) ?_
  refine aj_inn 8 ha (by decide) ?_
  refine br_f (by decide) ?_
  refine aj_inn 8 hb (by decide) ?_
  exact br_f (by decide) hp
theorem aj_yrow1 {post : Int32 → Prop} {R C S : Nat → Int32} {i a b : Nat} (hi : i < 4) (ha : a < 8) (hb : b < 8) (hp : post 1) : wpY_isRow post (R, C, S) (nI i) (nI a) (nI b) := by
  unfold wpY_isRow
  dsimp only
  refine aj_innl 3 (by omega) (by decide) ?_
  refine aj_innl 7 (by omega) (by decide) ?_
  refine br_f (by decide) ?_
  refine aj_innl 7 (by omega) (by decide) ?_
  exact br_f (by decide) hp
theorem aj_rowc (v1 v2 v3 : Int32) : (∃ i a b, i < 4 ∧ a < 8 ∧ b < 8 ∧ v1 = nI i ∧ v2 = nI a ∧ v3 = nI b) ∨ ((∀ post : Int32 → Prop, post 0 → wpX_isRow post v1 v2 v3) ∧ (∀ (R C S : Nat → Int32) (post : Int32 → Prop), post 0 → wpY_isRow post (R, C, S) v1 v2 v3)) := by
  have h1 := pk_ix v1 (n := 4) (by decide)
  have h2 := pk_ix v2 (n := 8) (by decide)
  have h3 := pk_ix v3 (n := 8) (by decide)
  rw [← or_assoc] at h1 h2 h3
  rcases h1 with h1 | ⟨i, hi, rfl⟩
  · refine Or.inr ⟨fun post hp => ?_, fun R C S post hp => ?_⟩
    · unfold wpX_isRow
      exact aj_out h1 (br_t rfl hp)
    · unfold wpY_isRow
      dsimp only
      exact aj_outl h1 hp
  rcases h2 with h2 | ⟨a, ha, rfl⟩
  · refine Or.inr ⟨fun post hp => ?_, fun R C S post hp => ?_⟩
    · unfold wpX_isRow
      refine aj_inn 4 hi (by decide) ?_
      refine br_f (by decide) ?_
      exact aj_out h2 (br_t rfl hp)
    · unfold wpY_isRow
      dsimp only
      refine aj_innl 3 (by omega) (by decide) ?_
      exact aj_outl h2 (br_t rfl hp)
  rcases h3 with h3 | ⟨b, hb, rfl⟩
  · refine Or.inr ⟨fun post hp => ?_, fun R C S post hp => ?_⟩
    · unfold wpX_isRow
      refine aj_inn 4 hi (by decide) ?_
      refine br_f (by decide) ?_
      refine aj_inn 8 ha (by decide) ?_
      refine br_f (by decide) ?_
      exact aj_out h3 (br_t rfl hp)
    · unfold wpY_isRow
      dsimp only
      refine aj_innl 3 (by omega) (by decide) ?_
      refine aj_innl 7 (by omega) (by decide) ?_
      refine br_f (by decide) ?_
      exact aj_outl h3 (br_t rfl hp)
  · exact Or.inl ⟨i, a, b, hi, ha, hb, rfl, rfl, rfl⟩
theorem aj_cellY (i a b : Nat) : ((64 * nI i) + (8 * nI a)) + nI b = nI ((i * 8 + a) * 8 + b) := by
  rw [show (64 : Int32) = nI 64 from rfl, show (8 : Int32) = nI 8 from rfl, pk_mul, pk_mul, nI_add, nI_add]
  exact congrArg nI (by omega)
theorem aj_nb1 : vp_nar .boolean 1 = 1 := rfl
theorem aj_nb0 : vp_nar .boolean 0 = 0 := rfl
