theorem aj_e2 {i x y a b : Nat} (hy : y < 8) (hb : b < 8) : aj_e (64 * i + 8 * x + y) ((i * 8 + a) * 8 + b) = aj_e x a * aj_e y b := by
  by_cases ex : x = a
  · by_cases ey : y = b
    · rw [aj_e_t ex, aj_e_t ey, aj_e_t (by omega)]
    · rw [aj_e_f ey, aj_e_f (by omega), Nat.mul_zero]
  · rw [aj_e_f ex, aj_e_f (by omega), Nat.zero_mul]
theorem aj_MV_count (h : Nat → Int32) : aj_MV h none none none none none = aj_sm (aj_A h) 32768 := by
  rw [aj_MV_eq]
  refine aj_cg (fun n _ => ?_)
  show 1 * aj_A h n = aj_A h n
  exact Nat.one_mul _
theorem i_vc_count {k : Nat} {u : SX} {v : SY} (I : i_Rel k u v) (hk : k + 4 ≤ 2048) : wpX_count (fun r => wpY_count (fun r' => r' = r ∧ i_Rel (k + 4) u v) v) u := by
  have I' := I
  obtain ⟨C, S, rfl, hC⟩ := I
  unfold wpX_count
  refine aj_mat u none none none none none True.intro True.intro True.intro True.intro True.intro ?_
  refine aj_ycount ⟨?_, I'⟩
  rw [aj_MV_count]
theorem aj_CW0 (h : Nat → Int32) (a b : Nat) (hb : b < 8) : aj_MV h (some a) (some b) none none none = aj_CW h 0 ((0 * 8 + a) * 8 + b) := by
  rw [aj_MV_eq]
  refine aj_cg (fun n _ => ?_)
  show (aj_e (n / 4096 % 8) a * aj_e (n / 512 % 8) b * 1 * 1 * 1) * aj_A h n = aj_A h n * aj_e (64 * 0 + 8 * (n / 4096 % 8) + n / 512 % 8) ((0 * 8 + a) * 8 + b)
  rw [aj_e2 (Nat.mod_lt _ (by decide)) hb]
  simp only [Nat.mul_one]
  exact Nat.mul_comm _ _
theorem aj_CW1 (h : Nat → Int32) (a b : Nat) (hb : b < 8) : aj_MV h none (some a) (some b) none none = aj_CW h 1 ((1 * 8 + a) * 8 + b) := by
  rw [aj_MV_eq]
  refine aj_cg (fun n _ => ?_)
  show (1 * aj_e (n / 512 % 8) a * aj_e (n / 64 % 8) b * 1 * 1) * aj_A h n = aj_A h n * aj_e (64 * 1 + 8 * (n / 512 % 8) + n / 64 % 8) ((1 * 8 + a) * 8 + b)
  rw [aj_e2 (Nat.mod_lt _ (by decide)) hb]
  simp only [Nat.mul_one, Nat.one_mul]
  exact Nat.mul_comm _ _
theorem aj_CW2 (h : Nat → Int32) (a b : Nat) (hb : b < 8) : aj_MV h none none (some a) (some b) none = aj_CW h 2 ((2 * 8 + a) * 8 + b) := by
  rw [aj_MV_eq]
  refine aj_cg (fun n _ => ?_)
  show (1 * 1 * aj_e (n / 64 % 8) a * aj_e (n / 8 % 8) b * 1) * aj_A h n = aj_A h n * aj_e (64 * 2 + 8 * (n / 64 % 8) + n / 8 % 8) ((2 * 8 + a) * 8 + b)
  rw [aj_e2 (Nat.mod_lt _ (by decide)) hb]
  simp only [Nat.mul_one, Nat.one_mul]
  exact Nat.mul_comm _ _
theorem aj_CW3 (h : Nat → Int32) (a b : Nat) (hb : b < 8) : aj_MV h none (some a) none none (some b) = aj_CW h 3 ((3 * 8 + a) * 8 + b) := by
  rw [aj_MV_eq]
  refine aj_cg (fun n _ => ?_)
  show (1 * aj_e (n / 512 % 8) a * 1 * 1 * aj_e (n % 8) b) * aj_A h n = aj_A h n * aj_e (64 * 3 + 8 * (n / 512 % 8) + n / 1 % 8) ((3 * 8 + a) * 8 + b)
  rw [Nat.div_one, aj_e2 (Nat.mod_lt _ (by decide)) hb]
  simp only [Nat.mul_one, Nat.one_mul]
  exact Nat.mul_comm _ _
theorem aj_CW_le (h : Nat → Int32) (i c : Nat) : aj_CW h i c ≤ 32768 := aj_sm_bd (fun n _ => aj_mul01 (aj_A_le _ _) (aj_e_le _ _))
theorem aj_xw {post : Int32 → Prop} (h : Nat → Int32) (i a b : Nat) (hi : i < 4) (ha : a < 8) (hb : b < 8) (hp : post (nI (aj_CW h i ((i * 8 + a) * 8 + b)))) : wpX_weight post h (nI i) (nI a) (nI b) := by
  have hj' : i = 0 ∨ i = 1 ∨ i = 2 ∨ i = 3 := by omega
  unfold wpX_weight
  refine aj_xrow1 hi ha hb ?_
  refine br_f (by decide) ?_
  refine br_f (nI_pos (by omega)) ?_
  rcases hj' with rfl | rfl | rfl | rfl
  · rw [← aj_CW0 h a b hb] at hp
    exact br_f (by decide) (br_t (by decide) (aj_mat h (some a) (some b) none none none ha hb True.intro True.intro True.intro hp))
  · rw [← aj_CW1 h a b hb] at hp
    exact br_f (by decide) (br_f (by decide) (br_t (by decide) (aj_mat h none (some a) (some b) none none True.intro ha hb True.intro True.intro hp)))
  · rw [← aj_CW2 h a b hb] at hp
    exact br_f (by decide) (br_f (by decide) (br_f (by decide) (br_t (by decide) (aj_mat h none none (some a) (some b) none True.intro True.intro ha hb True.intro hp))))
  · rw [← aj_CW3 h a b hb] at hp
    exact br_t (by decide) (aj_mat h none (some a) none none (some b) True.intro ha True.intro True.intro hb hp)
theorem i_vc_weight {k : Nat} {u : SX} {v : SY} (I : i_Rel k u v) (hk : k + 4 ≤ 2048) (v1 : Int32) (v2 : Int32) (v3 : Int32) : wpX_weight (fun r => wpY_weight (fun r' => r' = r ∧ i_Rel (k + 4) u v) v v1 v2 v3) u v1 v2 v3 := by
  have I' := I
  obtain ⟨C, S, rfl, hC⟩ := I
  rcases aj_rowc v1 v2 v3 with ⟨i, a, b, hi, ha, hb, rfl, rfl, rfl⟩ | ⟨hX, hY⟩
  · refine aj_xw u i a b hi ha hb ?_
    unfold wpY_weight
    dsimp only
    refine aj_yrow1 hi ha hb ?_
    refine br_f (by decide) ?_
    rw [aj_cellY]
    exact aj_ycw i _ hi (by omega) ⟨rfl, I'⟩
  · unfold wpX_weight wpY_weight
    dsimp only
    refine hX _ (br_t rfl ?_)
    exact hY _ _ _ _ (br_t rfl ⟨rfl, I'⟩)
theorem aj_undo {u : Nat → Int32} {c : Nat} (z : u c = 0) : upd (upd u c (vp_nar .boolean 1)) c (vp_nar .boolean 0) = u := by
  funext j
  by_cases e : j = c
  · subst e
    rw [pk_us, z]
    rfl
  · rw [pk_un e, pk_un e]
theorem i_vc_gain {k : Nat} {u : SX} {v : SY} (I : i_Rel k u v) (hk : k + 4 ≤ 2048) (v1 : Int32) (v2 : Int32) (v3 : Int32) : wpX_gain (fun r u' => wpY_gain (fun r' v' => r' = r ∧ i_Rel (k + 4) u' v') v v1 v2 v3) u v1 v2 v3 := by
  have I' := I
  obtain ⟨C, S, rfl, hC⟩ := I
  rcases aj_rowc v1 v2 v3 with ⟨i, a, b, hi, ha, hb, rfl, rfl, rfl⟩ | ⟨hX, hY⟩
  · have hc : (i * 8 + a) * 8 + b < 256 := by omega
    unfold wpX_gain wpY_gain
    dsimp only
    refine aj_xrow1 hi ha hb ?_
    refine br_f (by decide) ?_
    refine aj_cell i a b ?_
    refine ⟨vp_in_nI hc (by omega), ?_⟩
    rw [nI_clamp (by omega)]
    by_cases z : u ((i * 8 + a) * 8 + b) = 0
    · refine br_t z ⟨vp_in_nI hc (by omega), nm_e ?_⟩
      refine aj_xw _ i a b hi ha hb ?_
      refine ⟨vp_in_nI hc (by omega), nm_e ?_⟩
      refine aj_yrow1 hi ha hb ?_
      refine br_f (by decide) ?_
      refine nm_r (aj_cellY i a b) ⟨vp_in_nI hc (by omega), ?_⟩
      rw [nI_clamp (by omega)]
      refine br_t z ⟨vp_in_nI hc (by omega), nm_e ?_⟩
      refine aj_ycw i _ hi (by omega) ?_
      refine ⟨vp_in_nI hc (by omega), nm_e ⟨rfl, ?_⟩⟩
      rw [aj_undo z]
      exact I'
    · refine br_f z ?_
      refine aj_yrow1 hi ha hb ?_
      refine br_f (by decide) ?_
      refine nm_r (aj_cellY i a b) ⟨vp_in_nI hc (by omega), ?_⟩
      rw [nI_clamp (by omega)]
      exact br_f z ⟨rfl, I'⟩
  · unfold wpX_gain wpY_gain
    dsimp only
    refine hX _ (br_t rfl ?_)
    exact hY _ _ _ _ (br_t rfl ⟨rfl, I'⟩)
theorem aj_pos0 {w : Nat} (hw : w ≤ 32768) {A B : Prop} (f : w = 0 → A) (g : 0 < w → B) : (nI w ≤ 0 → A) ∧ (¬ nI w ≤ 0 → B) :=
  pk_le w 0 (fun h => f (by omega)) (fun h => g h)
theorem aj_A_ro {R : Nat → Int32} {n i : Nat} (hi : i < 4) (z : R (aj_ro n i) = 0) : aj_A R n = 0 := by
  have hj' : i = 0 ∨ i = 1 ∨ i = 2 ∨ i = 3 := by omega
  unfold aj_A
  rcases hj' with rfl | rfl | rfl | rfl
  · have e : aj_T R 0 (n / 4096 % 8) (n / 512 % 8) = 0 := if_pos (by
      rw [← z]
      refine congrArg R ?_
      show _ = 64 * 0 + 8 * (n / 4096 % 8) + n / 512 % 8
      omega)
    rw [e, Nat.zero_mul, Nat.zero_mul, Nat.zero_mul]
  · have e : aj_T R 1 (n / 512 % 8) (n / 64 % 8) = 0 := if_pos (by
      rw [← z]
      refine congrArg R ?_
      show _ = 64 * 1 + 8 * (n / 512 % 8) + n / 64 % 8
      omega)
    rw [e, Nat.mul_zero, Nat.zero_mul, Nat.zero_mul]
  · have e : aj_T R 2 (n / 64 % 8) (n / 8 % 8) = 0 := if_pos (by
      rw [← z]
      refine congrArg R ?_
      show _ = 64 * 2 + 8 * (n / 64 % 8) + n / 8 % 8
      omega)
    rw [e, Nat.mul_zero, Nat.zero_mul]
  · have e : aj_T R 3 (n / 512 % 8) (n % 8) = 0 := if_pos (by
      rw [← z]
      refine congrArg R ?_
      show _ = 64 * 3 + 8 * (n / 512 % 8) + n / 1 % 8
      omega)
    rw [e, Nat.mul_zero]
theorem aj_CW_z {R : Nat → Int32} {i c : Nat} (hi : i < 4) (z : R c = 0) : aj_CW R i c = 0 := by
  refine aj_sm_z (fun n _ => ?_)
  by_cases e : aj_ro n i = c
  · rw [aj_A_ro hi (by rw [e]; exact z), Nat.zero_mul]
  · rw [aj_e_f e, Nat.mul_zero]
def aj_US (h : Nat → Int32) (i : Nat) : Nat := aj_sm (fun a => aj_sm (fun b => aj_ps (aj_CW h i ((i * 8 + a) * 8 + b))) 8) 8
theorem aj_xus {post : Int32 → Prop} (h : Nat → Int32) (i : Nat) (hi : i < 4) (hp : post (nI (aj_US h i))) : ∃ n, wX_useful_13 post (nI i) h n 0 0 := by
  refine aj_acc0 (fun n x2 x3 => wX_useful_13 post (nI i) h n x2 x3) (fun a => aj_sm (fun b => aj_ps (aj_CW h i ((i * 8 + a) * 8 + b))) 8) 8 post ?_ ?_ 0 ?_
  · intro n a hk
    exact br_t (nI_le (a := 8) (Nat.le_refl _) (by decide)) hk
  · intro n a acc ha hw
    refine br_f (nI_ge (b := 8) ha (by decide)) ?_
    refine aj_acc0 (fun m x2 x4 => wX_useful_22 post (wX_useful_13 post (nI i) h n) (nI i) (nI a) h m x2 x4) (fun b => aj_ps (aj_CW h i ((i * 8 + a) * 8 + b))) 8 (fun z => wX_useful_13 post (nI i) h n z (nI (a + 1))) ?_ ?_ acc hw
    · intro m z hk
      exact br_t (nI_le (a := 8) (Nat.le_refl _) (by decide)) (nm_r (nI_1 a) hk)
    · intro m b z hb hw2
      refine br_f (nI_ge (b := 8) hb (by decide)) ?_
      refine aj_xw h i a b hi ha hb ?_
      refine aj_pos0 (aj_CW_le _ _ _) (fun e => ?_) (fun e => ?_)
      · rw [e, aj_ps_0, nI_0, Int32.add_zero] at hw2
        exact nm_r (nI_1 b) hw2
      · rw [aj_ps_p e] at hw2
        exact nm_e (nm_r (nI_1 b) hw2)
  · rw [Int32.zero_add]
    exact hp
theorem aj_yus {post : Int32 → Prop} {R C S : Nat → Int32} (i : Nat) (hi : i < 4) (hp : post (nI (aj_US R i))) : ∃ n, wY_useful_18 post (nI i) R C S n 0 (nI (64 * i)) := by
  have e64 : (64 * nI i) + 64 = nI (64 * i + 64) := by
    rw [show (64 : Int32) = nI 64 from rfl, pk_mul, nI_add]
  refine ⟨65, ?_⟩
  refine aj_acc (fun n x2 x3 => wY_useful_18 post (nI i) R C S n x2 x3) (fun c => aj_ps (aj_CW R (c / 64) c)) (64 * i + 64) post ?_ ?_ 64 (64 * i) 65 0 (by omega) (by omega) ?_
  · intro n a hk
    exact br_t (by rw [e64]; exact nI_le (Nat.le_refl _) (by omega)) hk
  · intro n c acc hc hw
    refine br_f (by rw [e64]; exact nI_ge hc (by omega)) ?_
    refine ⟨vp_in_nI (by omega) (by omega), ?_⟩
    rw [nI_clamp (by omega)]
    by_cases z : R c = 0
    · refine br_t z ?_
      rw [aj_CW_z (by omega) z, aj_ps_0, nI_0, Int32.add_zero] at hw
      exact nm_r (nI_1 c) hw
    · refine br_f z ?_
      refine aj_ycw (c / 64) c (by omega) rfl ?_
      refine aj_pos0 (aj_CW_le _ _ _) (fun e => ?_) (fun e => ?_)
      · rw [e, aj_ps_0, nI_0, Int32.add_zero] at hw
        exact nm_r (nI_1 c) hw
      · rw [aj_ps_p e] at hw
        exact nm_e (nm_r (nI_1 c) hw)
  · rw [Int32.zero_add]
    have e : aj_sm (fun k => aj_ps (aj_CW R ((64 * i + k) / 64) (64 * i + k))) 64 = aj_US R i := by
      have e1 := aj_sm_blk (fun k => aj_ps (aj_CW R ((64 * i + k) / 64) (64 * i + k))) 8 8
      rw [show 8 * 8 = 64 from rfl] at e1
      rw [e1]
      unfold aj_US
      refine aj_cg (fun a ha => aj_cg (fun b hb => ?_))
      rw [show (64 * i + (a * 8 + b)) / 64 = i from by omega, show 64 * i + (a * 8 + b) = (i * 8 + a) * 8 + b from by omega]
    rw [e]
    exact hp
theorem i_vc_useful {k : Nat} {u : SX} {v : SY} (I : i_Rel k u v) (hk : k + 4 ≤ 2048) (v1 : Int32) : wpX_useful (fun r => wpY_useful (fun r' => r' = r ∧ i_Rel (k + 4) u v) v v1) u v1 := by
  have I' := I
  obtain ⟨C, S, rfl, hC⟩ := I
  have h1 := pk_ix v1 (n := 4) (by decide)
  rw [← or_assoc] at h1
  rcases h1 with h1 | ⟨i, hi, rfl⟩
  · unfold wpX_useful wpY_useful
    dsimp only
    refine aj_out h1 (br_t rfl ?_)
    exact aj_outr h1 ⟨rfl, I'⟩
  · unfold wpX_useful wpY_useful
    dsimp only
    refine aj_inn 4 hi (by decide) ?_
    refine br_f (by decide) ?_
    refine aj_xus u i hi ?_
    refine aj_innr 3 (by omega) (by decide) ?_
    refine nm_r (e' := nI (64 * i)) (by rw [show (64 : Int32) = nI 64 from rfl, pk_mul]) ?_
    exact aj_yus i hi ⟨rfl, I'⟩
