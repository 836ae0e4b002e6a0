theorem i_vc_put {k : Nat} {u : SX} {v : SY} (I : i_Rel k u v) (hk : k + 4 ≤ 2048) (v1 : Int32) (v2 : Int32) (v3 : Int32) : wpX_put (fun r u' => wpY_put (fun r' v' => r' = r ∧ i_Rel (k + 4) u' v') v v1 v2 v3) u v1 v2 v3 := by
  obtain ⟨C, S, rfl, hC⟩ := I
  rcases aj_rowc v1 v2 v3 with ⟨i, a, b, hi, ha, hb, rfl, rfl, rfl⟩ | ⟨hX, hY⟩
  · have hc : (i * 8 + a) * 8 + b < 256 := by omega
    obtain ⟨hCi, hC10⟩ := hC i hi
    unfold wpX_put wpY_put
    dsimp only
    rw [aj_cellY]
    refine aj_xrow1 hi ha hb ?_
    refine br_f (by decide) ?_
    refine aj_cell i a b ?_
    refine ⟨vp_in_nI hc (by omega), ?_⟩
    rw [nI_clamp (by omega)]
    by_cases z : u ((i * 8 + a) * 8 + b) = 0
    · refine br_t z ?_
      refine aj_fit u i none none hi True.intro True.intro ?_
      refine pk_lt (aj_FT u i none none) 10 (fun hlt => ?_) (fun hge => ?_)
      · refine ⟨vp_in_nI hc (by omega), ?_⟩
        refine nm_e ?_
        refine aj_fit _ i none none hi True.intro True.intro ?_
        refine aj_yrow1 hi ha hb ?_
        refine br_f (by decide) ⟨vp_in_nI hc (by omega), ?_⟩
        refine br_t z ⟨vp_in_nI hi (by omega), ?_⟩
        rw [nI_clamp (by omega)]
        refine br_f (by rw [hCi]; intro e; have := (nI_eq (b := 10) (by omega) (by decide)).mp e; omega) ?_
        refine ⟨vp_in_nI hc (by omega), nm_e ⟨vp_in_nI hi (by omega), vp_in_nI hi (by omega), nm_e ⟨vp_in_nI hi (by omega), ?_, ?_⟩⟩⟩
        · rw [pk_us, hCi, nI_1]
          exact congrArg nI (aj_FT_step ha hb z (by rw [pk_us]; decide) (fun j hj => pk_un hj)).symm
        · refine ⟨_, _, rfl, fun j hj => ?_⟩
          by_cases e : j = i
          · subst e
            rw [pk_us, hCi, nI_1, aj_FT_step ha hb z (by rw [pk_us]; decide) (fun j hj => pk_un hj)]
            exact ⟨rfl, by omega⟩
          · rw [pk_un e, aj_FT_same (h := u) (fun x y hx hy => pk_un (by omega))]
            exact hC j hj
      · refine aj_yrow1 hi ha hb ?_
        refine br_f (by decide) ⟨vp_in_nI hc (by omega), ?_⟩
        refine br_t z ⟨vp_in_nI hi (by omega), ?_⟩
        rw [nI_clamp (by omega)]
        refine br_t (by rw [hCi, show aj_FT u i none none = 10 from by omega]; rfl) ?_
        exact ⟨rfl, C, S, rfl, hC⟩
    · refine br_f z ?_
      refine aj_yrow1 hi ha hb ?_
      refine br_f (by decide) ⟨vp_in_nI hc (by omega), ?_⟩
      exact br_f z ⟨rfl, C, S, rfl, hC⟩
  · unfold wpX_put wpY_put
    dsimp only
    refine hX _ (br_t rfl ?_)
    exact hY _ _ _ _ (br_t rfl ⟨rfl, C, S, rfl, hC⟩)
theorem i_vc_drop {k : Nat} {u : SX} {v : SY} (I : i_Rel k u v) (hk : k + 4 ≤ 2048) (v1 : Int32) (v2 : Int32) (v3 : Int32) : wpX_drop (fun r u' => wpY_drop (fun r' v' => r' = r ∧ i_Rel (k + 4) u' v') v v1 v2 v3) u v1 v2 v3 := by
  obtain ⟨C, S, rfl, hC⟩ := I
  rcases aj_rowc v1 v2 v3 with ⟨i, a, b, hi, ha, hb, rfl, rfl, rfl⟩ | ⟨hX, hY⟩
  · have hc : (i * 8 + a) * 8 + b < 256 := by omega
    obtain ⟨hCi, hC10⟩ := hC i hi
    unfold wpX_drop wpY_drop
    dsimp only
    rw [aj_cellY]
    refine aj_xrow1 hi ha hb ?_
    refine br_f (by decide) ?_
    refine aj_cell i a b ?_
    refine ⟨vp_in_nI hc (by omega), ?_⟩
    rw [nI_clamp (by omega)]
    by_cases z : u ((i * 8 + a) * 8 + b) = 0
    · refine br_t z ?_
      refine aj_yrow1 hi ha hb ?_
      refine br_f (by decide) ⟨vp_in_nI hc (by omega), ?_⟩
      exact br_t z ⟨rfl, C, S, rfl, hC⟩
    · refine br_f z ⟨vp_in_nI hc (by omega), nm_e ?_⟩
      have st : aj_FT u i none none = aj_FT (upd u ((i * 8 + a) * 8 + b) (vp_nar .boolean 0)) i none none + 1 := aj_FT_step ha hb (by rw [pk_us]; decide) z (fun j hj => (pk_un hj).symm)
      refine aj_fit _ i none none hi True.intro True.intro ?_
      refine aj_yrow1 hi ha hb ?_
      refine br_f (by decide) ⟨vp_in_nI hc (by omega), ?_⟩
      refine br_f z ⟨vp_in_nI hc (by omega), nm_e ?_⟩
      rw [nI_clamp (by omega)]
      refine ⟨vp_in_nI hi (by omega), vp_in_nI hi (by omega), nm_e ⟨vp_in_nI hi (by omega), ?_, ?_⟩⟩
      · rw [pk_us, hCi, st, nI_pred]
      · refine ⟨_, _, rfl, fun j hj => ?_⟩
        by_cases e : j = i
        · subst e
          rw [pk_us, hCi, st, nI_pred]
          exact ⟨rfl, by omega⟩
        · rw [pk_un e, aj_FT_same (h := u) (fun x y hx hy => pk_un (by omega))]
          exact hC j hj
  · unfold wpX_drop wpY_drop
    dsimp only
    refine hX _ (br_t rfl ?_)
    exact hY _ _ _ _ (br_t rfl ⟨rfl, C, S, rfl, hC⟩)
def aj_clr (h : Nat → Int32) (i m : Nat) : Nat → Int32 := fun j => if 64 * i ≤ j ∧ j < 64 * i + m then 0 else h j
theorem aj_clr0 (h : Nat → Int32) (i : Nat) : aj_clr h i 0 = h := by
  funext j
  exact if_neg (by omega)
theorem aj_clrs (h : Nat → Int32) (i m : Nat) : upd (aj_clr h i m) (64 * i + m) (vp_nar .boolean 0) = aj_clr h i (m + 1) := by
  funext j
  by_cases e : j = 64 * i + m
  · subst e
    rw [pk_us]
    exact (if_pos (by omega)).symm
  · rw [pk_un e]
    unfold aj_clr
    by_cases l : 64 * i ≤ j ∧ j < 64 * i + m
    · rw [if_pos l, if_pos (by omega)]
    · rw [if_neg l, if_neg (by omega)]
theorem aj_xclr28 {post : Int32 → SX → Prop} {J : Int32 → (Nat → Int32) → Prop} (h : Nat → Int32) (i : Nat) (hi : i < 4) (x2 : Int32) (x : Nat) (hx : x < 8) (hJ : J (nI (x + 1)) (aj_clr h i (8 * (x + 1)))) : ∀ d y n, y + d = 8 → d < n → wX_clear_28 post J (nI i) x2 (nI x) n (nI y) (aj_clr h i (8 * x + y)) := by
  intro d
  induction d with
  | zero =>
    intro y n hy hn
    obtain ⟨m, rfl⟩ : ∃ m, n = m + 1 := ⟨n - 1, by omega⟩
    refine br_t (nI_le (a := 8) (by omega) (by omega)) (nm_r (nI_1 x) ?_)
    rw [show 8 * x + y = 8 * (x + 1) from by omega]
    exact hJ
  | succ d ih =>
    intro y n hy hn
    obtain ⟨m, rfl⟩ : ∃ m, n = m + 1 := ⟨n - 1, by omega⟩
    refine br_f (nI_ge (b := 8) (by omega) (by omega)) ?_
    refine aj_cell i x y ?_
    refine ⟨vp_in_nI (by omega) (by omega), ?_⟩
    rw [nI_clamp (by omega), show (i * 8 + x) * 8 + y = 64 * i + (8 * x + y) from by omega, aj_clrs]
    exact nm_e (nm_r (nI_1 y) (ih (y + 1) m (by omega) (by omega)))
theorem aj_xclr19 {post : Int32 → SX → Prop} (h : Nat → Int32) (i : Nat) (hi : i < 4) (x2 : Int32) (hp : post x2 (aj_clr h i 64)) : ∀ d x n, x + d = 8 → d < n → wX_clear_19 post (nI i) x2 n (nI x) (aj_clr h i (8 * x)) := by
  intro d
  induction d with
  | zero =>
    intro x n hx hn
    obtain ⟨m, rfl⟩ : ∃ m, n = m + 1 := ⟨n - 1, by omega⟩
    refine br_t (nI_le (a := 8) (by omega) (by omega)) ?_
    rw [show 8 * x = 64 from by omega]
    exact hp
  | succ d ih =>
    intro x n hx hn
    obtain ⟨m, rfl⟩ : ∃ m, n = m + 1 := ⟨n - 1, by omega⟩
    refine br_f (nI_ge (b := 8) (by omega) (by omega)) ?_
    exact ⟨9, aj_xclr28 h i hi x2 x (by omega) (ih (x + 1) m (by omega) (by omega)) 8 0 9 (by omega) (by omega)⟩
theorem aj_yclr {post : Int32 → SY → Prop} (h C S : Nat → Int32) (i : Nat) (hi : i < 4) (x2 : Int32) (hp : post x2 (aj_clr h i 64, C, S)) : ∀ d m n, m + d = 64 → d < n → wY_clear_30 post (nI i) x2 n (nI (64 * i + m)) (aj_clr h i m) C S := by
  have e64 : (64 * nI i) + 64 = nI (64 * i + 64) := by
    rw [show (64 : Int32) = nI 64 from rfl, pk_mul, nI_add]
  intro d
  induction d with
  | zero =>
    intro m n hm hn
    obtain ⟨w, rfl⟩ : ∃ w, n = w + 1 := ⟨n - 1, by omega⟩
    refine br_t (by rw [e64]; exact nI_le (by omega) (by omega)) ?_
    rw [show m = 64 from by omega]
    exact hp
  | succ d ih =>
    intro m n hm hn
    obtain ⟨w, rfl⟩ : ∃ w, n = w + 1 := ⟨n - 1, by omega⟩
    refine br_f (by rw [e64]; exact nI_ge (by omega) (by omega)) ?_
    refine ⟨vp_in_nI (by omega) (by omega), ?_⟩
    rw [nI_clamp (by omega), aj_clrs]
    exact nm_e (nm_r (nI_1 (64 * i + m)) (ih (m + 1) w (by omega) (by omega)))
theorem i_vc_clear {k : Nat} {u : SX} {v : SY} (I : i_Rel k u v) (hk : k + 4 ≤ 2048) (v1 : Int32) : wpX_clear (fun r u' => wpY_clear (fun r' v' => r' = r ∧ i_Rel (k + 4) u' v') v v1) u v1 := by
  obtain ⟨C, S, rfl, hC⟩ := I
  have h1 := pk_ix v1 (n := 4) (by decide)
  rw [← or_assoc] at h1
  rcases h1 with h1 | ⟨i, hi, rfl⟩
  · unfold wpX_clear wpY_clear
    dsimp only
    refine aj_out h1 (br_t rfl ?_)
    exact aj_outr h1 ⟨rfl, C, S, rfl, hC⟩
  · obtain ⟨hCi, hC10⟩ := hC i hi
    unfold wpX_clear wpY_clear
    dsimp only
    refine aj_inn 4 hi (by decide) ?_
    refine br_f (by decide) ?_
    refine aj_fit u i none none hi True.intro True.intro ?_
    refine ⟨9, ?_⟩
    have hx := fun (post : Int32 → SX → Prop) (x2 : Int32) (hp : post x2 (aj_clr u i 64)) => aj_xclr19 u i hi x2 hp 8 0 9 (by omega) (by omega)
    rw [Nat.mul_zero, aj_clr0, nI_0] at hx
    refine hx _ _ ?_
    refine aj_innr 3 (by omega) (by decide) ?_
    refine ⟨vp_in_nI hi (by omega), ?_⟩
    rw [nI_clamp (by omega)]
    refine nm_e ⟨vp_in_nI hi (by omega), nm_e ?_⟩
    refine nm_r (e' := nI (64 * i + 0)) (by rw [show (64 : Int32) = nI 64 from rfl, pk_mul]; rfl) ⟨65, ?_⟩
    have hy := fun (post : Int32 → SY → Prop) (C : Nat → Int32) (x2 : Int32) (hp : post x2 (aj_clr u i 64, C, S)) => aj_yclr u C S i hi x2 hp 64 0 65 (by omega) (by omega)
    rw [aj_clr0] at hy
    refine hy _ _ _ ⟨hCi, _, _, rfl, fun j hj => ?_⟩
    by_cases e : j = i
    · subst e
      have ez : aj_FT (aj_clr u j 64) j none none = 0 := by
        rw [aj_FT_nn]
        exact aj_sm_z (fun x hx => aj_sm_z (fun y hy => if_pos (if_pos (by omega))))
      rw [pk_us, ez]
      exact ⟨rfl, by omega⟩
    · rw [pk_un e, aj_FT_same (h := u) (fun x y hx hy => if_neg (by omega))]
      exact hC j hj
theorem i_vc_rows {k : Nat} {u : SX} {v : SY} (I : i_Rel k u v) (hk : k + 4 ≤ 2048) (v1 : Int32) : wpX_rows (fun r => wpY_rows (fun r' => r' = r ∧ i_Rel (k + 4) u v) v v1) u v1 := by
  obtain ⟨C, S, rfl, hC⟩ := I
  have h1 := pk_ix v1 (n := 4) (by decide)
  rw [← or_assoc] at h1
  rcases h1 with h1 | ⟨i, hi, rfl⟩
  · unfold wpX_rows wpY_rows
    dsimp only
    refine aj_out h1 (br_t rfl ?_)
    exact aj_outr h1 ⟨rfl, C, S, rfl, hC⟩
  · obtain ⟨hCi, hC10⟩ := hC i hi
    unfold wpX_rows wpY_rows
    dsimp only
    refine aj_inn 4 hi (by decide) ?_
    refine br_f (by decide) ?_
    refine aj_fit u i none none hi True.intro True.intro ?_
    refine aj_innr 3 (by omega) (by decide) ?_
    refine ⟨vp_in_nI hi (by omega), ?_, C, S, rfl, hC⟩
    rw [nI_clamp (by omega)]
    exact hCi
