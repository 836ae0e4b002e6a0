def aj_col (c j v : Nat) : Option Nat := if c = j then some v else none
theorem aj_col_ok (c j : Nat) {v : Nat} (hv : v < 8) : aj_ok (aj_col c j v) := by
  unfold aj_col
  split
  · exact hv
  · exact True.intro
theorem aj_cpk (P : Int32 → Prop) (c j v : Nat) (hc : c < 5) (hj : j < 5) (hP : P (aj_O (aj_col c j v))) {y : Int32} (ey : y = nI j := by rfl) : (nI c = y → P (nI v)) ∧ (¬ nI c = y → P (-1)) := by
  refine pk_eq c j (fun e => ?_) (fun e => ?_) rfl ey
  · rw [show aj_col c j v = some v from if_pos e] at hP
    exact hP
  · rw [show aj_col c j v = none from if_neg e] at hP
    exact hP
theorem aj_CV_eq (h : Nat → Int32) (c v : Nat) (hc : c < 5) : aj_MV h (aj_col c 0 v) (aj_col c 1 v) (aj_col c 2 v) (aj_col c 3 v) (aj_col c 4 v) = aj_CV h c v := by
  have hj' : c = 0 ∨ c = 1 ∨ c = 2 ∨ c = 3 ∨ c = 4 := by omega
  rw [aj_MV_eq]
  refine aj_cg (fun n _ => ?_)
  rcases hj' with rfl | rfl | rfl | rfl | rfl
  · show (aj_e (n / 4096 % 8) v * 1 * 1 * 1 * 1) * aj_A h n = aj_A h n * aj_e (n / 4096 % 8) v
    simp only [Nat.mul_one]
    exact Nat.mul_comm _ _
  · show (1 * aj_e (n / 512 % 8) v * 1 * 1 * 1) * aj_A h n = aj_A h n * aj_e (n / 512 % 8) v
    simp only [Nat.mul_one, Nat.one_mul]
    exact Nat.mul_comm _ _
  · show (1 * 1 * aj_e (n / 64 % 8) v * 1 * 1) * aj_A h n = aj_A h n * aj_e (n / 64 % 8) v
    simp only [Nat.mul_one, Nat.one_mul]
    exact Nat.mul_comm _ _
  · show (1 * 1 * 1 * aj_e (n / 8 % 8) v * 1) * aj_A h n = aj_A h n * aj_e (n / 8 % 8) v
    simp only [Nat.mul_one, Nat.one_mul]
    exact Nat.mul_comm _ _
  · show (1 * 1 * 1 * 1 * aj_e (n % 8) v) * aj_A h n = aj_A h n * aj_e (n / 1 % 8) v
    simp only [Nat.mul_one, Nat.one_mul, Nat.div_one]
    exact Nat.mul_comm _ _
theorem aj_xwith {post : Int32 → Prop} (h : Nat → Int32) (c v : Nat) (hc : c < 5) (hv : v < 8) (hp : post (nI (aj_CV h c v))) {p0 : Int32} (e0 : p0 = nI c := by rfl) : wpX_with post h p0 (nI v) := by
  subst e0
  rw [← aj_CV_eq h c v hc] at hp
  unfold wpX_with
  refine aj_inn 5 hc (by decide) ?_
  refine br_f (by decide) ?_
  refine aj_inn 8 hv (by decide) ?_
  refine br_f (by decide) ?_
  refine aj_cpk (fun r => wX_with_25 post (nI c) (nI v) r h) c 0 v hc (by omega) ?_
  refine aj_cpk (fun r => wX_with_36 post (nI c) (nI v) (aj_O (aj_col c 0 v)) r h) c 1 v hc (by omega) ?_
  refine aj_cpk (fun r => wX_with_48 post (nI c) (nI v) (aj_O (aj_col c 0 v)) (aj_O (aj_col c 1 v)) r h) c 2 v hc (by omega) ?_
  refine aj_cpk (fun r => wX_with_60 post (nI c) (nI v) (aj_O (aj_col c 0 v)) (aj_O (aj_col c 1 v)) (aj_O (aj_col c 2 v)) r h) c 3 v hc (by omega) ?_
  refine aj_cpk (fun r => wX_with_72 post (aj_O (aj_col c 0 v)) (aj_O (aj_col c 1 v)) (aj_O (aj_col c 2 v)) (aj_O (aj_col c 3 v)) r h) c 4 v hc (by omega) ?_
  exact aj_mat h (aj_col c 0 v) (aj_col c 1 v) (aj_col c 2 v) (aj_col c 3 v) (aj_col c 4 v) (aj_col_ok _ _ hv) (aj_col_ok _ _ hv) (aj_col_ok _ _ hv) (aj_col_ok _ _ hv) (aj_col_ok _ _ hv) hp
theorem i_vc_with {k : Nat} {u : SX} {v : SY} (I : i_Rel k u v) (hk : k + 4 ≤ 2048) (v1 : Int32) (v2 : Int32) : wpX_with (fun r => wpY_with (fun r' => r' = r ∧ i_Rel (k + 4) u v) v v1 v2) u v1 v2 := by
  have I' := I
  obtain ⟨C, S, rfl, hC⟩ := I
  have h1 := pk_ix v1 (n := 5) (by decide)
  have h2 := pk_ix v2 (n := 8) (by decide)
  rw [← or_assoc] at h1 h2
  rcases h1 with h1 | ⟨c, hc, rfl⟩
  · unfold wpX_with wpY_with
    dsimp only
    refine aj_out h1 (br_t rfl ?_)
    exact aj_outl h1 ⟨rfl, I'⟩
  rcases h2 with h2 | ⟨w, hw, rfl⟩
  · unfold wpX_with wpY_with
    dsimp only
    refine aj_inn 5 hc (by decide) ?_
    refine br_f (by decide) ?_
    refine aj_out h2 (br_t rfl ?_)
    refine aj_innl 4 (by omega) (by decide) ?_
    unfold wpY_isValue
    dsimp only
    exact aj_outl h2 (br_t rfl ⟨rfl, I'⟩)
  · refine aj_xwith u c w hc hw ?_
    unfold wpY_with
    dsimp only
    refine aj_innl 4 (by omega) (by decide) ?_
    unfold wpY_isValue
    dsimp only
    refine aj_innl 7 (by omega) (by decide) ?_
    refine br_f (by decide) ?_
    exact aj_ycv c w hc hw ⟨rfl, I'⟩
theorem aj_CV_le (h : Nat → Int32) (c v : Nat) : aj_CV h c v ≤ 32768 := aj_sm_bd (fun n _ => aj_mul01 (aj_A_le _ _) (aj_e_le _ _))
theorem aj_xvs {post : Int32 → Prop} (h : Nat → Int32) (c : Nat) (hc : c < 5) (hp : post (nI (aj_sm (fun v => aj_ps (aj_CV h c v)) 8))) : ∃ n, wX_values_13 post (nI c) h n 0 0 := by
  refine aj_acc0 (fun n x2 x3 => wX_values_13 post (nI c) h n x2 x3) (fun v => aj_ps (aj_CV h c v)) 8 post ?_ ?_ 0 ?_
  · intro n a hk
    exact br_t (nI_le (a := 8) (Nat.le_refl _) (by decide)) hk
  · intro n v acc hv hw
    refine br_f (nI_ge (b := 8) hv (by decide)) ?_
    refine aj_xwith h c v hc hv ?_
    refine aj_pos0 (aj_CV_le _ _ _) (fun e => ?_) (fun e => ?_)
    · rw [e, aj_ps_0, nI_0, Int32.add_zero] at hw
      exact nm_r (nI_1 v) hw
    · rw [aj_ps_p e] at hw
      exact nm_e (nm_r (nI_1 v) hw)
  · rw [Int32.zero_add]
    exact hp
theorem aj_yvs {post : Int32 → Prop} {R C S : Nat → Int32} (c : Nat) (hc : c < 5) (hp : post (nI (aj_sm (fun v => aj_ps (aj_CV R c v)) 8))) : ∃ n, wY_values_15 post (nI c) R C S n 0 0 := by
  refine aj_acc0 (fun n x2 x3 => wY_values_15 post (nI c) R C S n x2 x3) (fun v => aj_ps (aj_CV R c v)) 8 post ?_ ?_ 0 ?_
  · intro n a hk
    exact br_t (nI_le (a := 8) (Nat.le_refl _) (by decide)) hk
  · intro n v acc hv hw
    refine br_f (nI_ge (b := 8) hv (by decide)) ?_
    refine aj_ycv c v hc hv ?_
    refine aj_pos0 (aj_CV_le _ _ _) (fun e => ?_) (fun e => ?_)
    · rw [e, aj_ps_0, nI_0, Int32.add_zero] at hw
      exact nm_r (nI_1 v) hw
    · rw [aj_ps_p e] at hw
      exact nm_e (nm_r (nI_1 v) hw)
  · rw [Int32.zero_add]
    exact hp
theorem i_vc_values {k : Nat} {u : SX} {v : SY} (I : i_Rel k u v) (hk : k + 4 ≤ 2048) (v1 : Int32) : wpX_values (fun r => wpY_values (fun r' => r' = r ∧ i_Rel (k + 4) u v) v v1) u v1 := by
  have I' := I
  obtain ⟨C, S, rfl, hC⟩ := I
  have h1 := pk_ix v1 (n := 5) (by decide)
  rw [← or_assoc] at h1
  rcases h1 with h1 | ⟨c, hc, rfl⟩
  · unfold wpX_values wpY_values
    dsimp only
    refine aj_out h1 (br_t rfl ?_)
    exact aj_outr h1 ⟨rfl, I'⟩
  · unfold wpX_values wpY_values
    dsimp only
    refine aj_inn 5 hc (by decide) ?_
    refine br_f (by decide) ?_
    refine aj_xvs u c hc ?_
    refine aj_innr 4 (by omega) (by decide) ?_
    exact aj_yvs c hc ⟨rfl, I'⟩
theorem aj_wt (h : Nat → Int32) (c : Nat) : aj_sm (fun v => v * aj_CV h c v) 8 = aj_sm (fun n => aj_A h n * aj_vi n c) 32768 := by
  unfold aj_CV
  rw [aj_cg (g := fun v => aj_sm (fun n => v * (aj_A h n * aj_e (aj_vi n c) v)) 32768) (fun v _ => by rw [aj_sm_mul])]
  rw [aj_sm_swap]
  refine aj_cg (fun n _ => ?_)
  rw [aj_sm_one (v := aj_vi n c) (aj_vi_lt n c) (fun v _ hn => by rw [aj_e_f (Ne.symm hn), Nat.mul_zero, Nat.mul_zero])]
  rw [aj_e_t rfl, Nat.mul_one]
  exact Nat.mul_comm _ _
theorem aj_sumE (h : Nat → Int32) : aj_sm (fun v => v * (aj_CV h 3 v + aj_CV h 4 v)) 8 = aj_sm (fun n => aj_A h n * (aj_vi n 3 + aj_vi n 4)) 32768 := by
  rw [aj_cg (g := fun v => v * aj_CV h 3 v + v * aj_CV h 4 v) (fun v _ => Nat.mul_add _ _ _), aj_sm_add, aj_wt, aj_wt, ← aj_sm_add]
  exact aj_cg (fun n _ => (Nat.mul_add _ _ _).symm)
theorem i_vc_sum {k : Nat} {u : SX} {v : SY} (I : i_Rel k u v) (hk : k + 4 ≤ 2048) : wpX_sum (fun r => wpY_sum (fun r' => r' = r ∧ i_Rel (k + 4) u v) v) u := by
  have I' := I
  obtain ⟨C, S, rfl, hC⟩ := I
  unfold wpX_sum
  refine aj_acc0 (fun n x1 x2 => wX_sum_4 (fun r => wpY_sum (fun r' => r' = r ∧ i_Rel (k + 4) u (u, C, S)) (u, C, S)) u n x1 x2) (fun v => v * (aj_CV u 3 v + aj_CV u 4 v)) 8 (fun r => wpY_sum (fun r' => r' = r ∧ i_Rel (k + 4) u (u, C, S)) (u, C, S)) ?_ ?_ 0 ?_
  · intro n a hk
    exact br_t (nI_le (a := 8) (Nat.le_refl _) (by decide)) hk
  · intro n v acc hv hw
    refine br_f (nI_ge (b := 8) hv (by decide)) ?_
    refine aj_xwith u 3 v (by omega) hv ?_
    refine aj_xwith u 4 v (by omega) hv ?_
    exact nm_r (by rw [nI_add, pk_mul]) (nm_r (nI_1 v) hw)
  · rw [Int32.zero_add, aj_sumE]
    exact aj_ysum ⟨rfl, I'⟩
