def aj_pr (n : Nat) : Nat := 8 * aj_vi n 0 + aj_vi n 3
theorem aj_pr_lt (n : Nat) : aj_pr n < 64 := by
  have h1 := aj_vi_lt n 0
  have h2 := aj_vi_lt n 3
  unfold aj_pr
  omega
def aj_D (h : Nat → Int32) (n j : Nat) : Nat := aj_ps (aj_sm (fun m => aj_A h m * aj_e (aj_pr m) j) n)
theorem aj_D0 (h : Nat → Int32) (j : Nat) : aj_D h 0 j = 0 := rfl
theorem aj_D_le (h : Nat → Int32) (n j : Nat) : aj_D h n j ≤ 1 := aj_ps_le _
theorem aj_D_k {h : Nat → Int32} {n j : Nat} (z : aj_A h n * aj_e (aj_pr n) j = 0) : aj_D h (n + 1) j = aj_D h n j := by
  unfold aj_D
  rw [aj_sm_s, z, Nat.add_zero]
theorem aj_D_1 {h : Nat → Int32} {n : Nat} (z : aj_A h n = 1) : aj_D h (n + 1) (aj_pr n) = 1 := by
  unfold aj_D
  rw [aj_sm_s, z, aj_e_t rfl]
  exact aj_ps_p (by omega)
theorem aj_D_same {h : Nat → Int32} {n : Nat} (z : aj_A h n = 0 ∨ aj_D h n (aj_pr n) ≠ 0) (j : Nat) : aj_D h (n + 1) j = aj_D h n j := by
  by_cases e : aj_A h n = 0
  · exact aj_D_k (by rw [e, Nat.zero_mul])
  · by_cases ej : aj_pr n = j
    · subst ej
      have h1 := aj_A_le h n
      have h2 := aj_D_le h n (aj_pr n)
      rw [aj_D_1 (by omega)]
      rcases z with z | z
      · exact (e z).elim
      · omega
    · exact aj_D_k (by rw [aj_e_f ej, Nat.mul_zero])
theorem aj_D_new {h : Nat → Int32} {n : Nat} (z : aj_A h n = 1) (w : aj_D h n (aj_pr n) = 0) : aj_sm (aj_D h (n + 1)) 64 = aj_sm (aj_D h n) 64 + 1 := by
  have e : ∀ j, j < 64 → aj_D h (n + 1) j = aj_D h n j + aj_e j (aj_pr n) := by
    intro j _
    by_cases ej : j = aj_pr n
    · subst ej
      rw [aj_D_1 z, w, aj_e_t rfl]
    · rw [aj_D_k (by rw [aj_e_f (Ne.symm ej), Nat.mul_zero]), aj_e_f ej, Nat.add_zero]
  rw [aj_cg e, aj_sm_add, aj_sm_one (f := fun j => aj_e j (aj_pr n)) (v := aj_pr n) (aj_pr_lt n) (fun j _ hn => aj_e_f hn), aj_e_t rfl]
theorem aj_yends25 {post : Int32 → SY → Prop} {R C : Nat → Int32} (hp : ∀ S, post (nI (aj_sm (aj_D R 32768) 64)) (R, C, S)) :
    ∀ d j n (S : Nat → Int32), j + d = 32768 → d < n → (∀ q, q < 64 → (S q = 0 ↔ aj_D R j q = 0)) → wY_ends_25 post n (nI (aj_sm (aj_D R j) 64)) (nI j) R C S := by
  intro d
  induction d with
  | zero =>
    intro j n S hj hn hS
    obtain ⟨w, rfl⟩ : ∃ w, n = w + 1 := ⟨n - 1, by omega⟩
    have ej : j = 32768 := by omega
    subst ej
    exact br_t (nI_le (a := 32768) (Nat.le_refl _) (by decide)) (hp S)
  | succ d ih =>
    intro j n S hj hn hS
    obtain ⟨w, rfl⟩ : ∃ w, n = w + 1 := ⟨n - 1, by omega⟩
    have hj2 : j < 32768 := by omega
    have hpr := aj_pr_lt j
    refine br_f (nI_ge (b := 32768) hj2 (by decide)) ?_
    refine aj_yval 0 hj2 (by omega) ?_
    refine aj_yval 3 hj2 (by omega) ?_
    refine nm_r (e' := nI (aj_pr j)) (by rw [show (8 : Int32) = nI 8 from rfl, pk_mul, nI_add]; rfl) ?_
    refine ⟨vp_in_nI hpr (by omega), ?_⟩
    rw [nI_clamp (by omega)]
    by_cases z : S (aj_pr j) = 0
    · refine br_t z ?_
      refine aj_yans hj2 ?_
      have w0 := (hS _ hpr).mp z
      rcases aj_A01 R j with a | a
      · rw [a]
        refine br_t rfl (nm_r (nI_1 j) ?_)
        have hs := fun q => aj_D_same (h := R) (n := j) (Or.inl a) q
        have := ih (j + 1) w S (by omega) (by omega) (fun q hq => by rw [hs q]; exact hS q hq)
        rw [aj_cg (fun q _ => hs q)] at this
        exact this
      · rw [a]
        refine br_f (by decide) ⟨vp_in_nI hpr (by omega), nm_e ?_⟩
        have := ih (j + 1) w (upd S (aj_pr j) (vp_nar .boolean 1)) (by omega) (by omega) (fun q hq => by
          by_cases e : q = aj_pr j
          · subst e
            rw [pk_us, aj_D_1 a]
            exact ⟨fun h => absurd h (by decide), fun h => absurd h (by decide)⟩
          · rw [pk_un e, aj_D_k (by rw [aj_e_f (Ne.symm e), Nat.mul_zero])]
            exact hS q hq)
        rw [aj_D_new a w0] at this
        exact nm_r (nI_1 _) (nm_r (nI_1 j) this)
    · refine br_f z (nm_r (nI_1 j) ?_)
      have w1 : aj_D R j (aj_pr j) ≠ 0 := fun h => z ((hS _ hpr).mpr h)
      have hs := fun q => aj_D_same (h := R) (n := j) (Or.inr w1) q
      have := ih (j + 1) w S (by omega) (by omega) (fun q hq => by rw [hs q]; exact hS q hq)
      rw [aj_cg (fun q _ => hs q)] at this
      exact this
theorem aj_yends2 {post : Int32 → SY → Prop} {R C : Nat → Int32} (hp : ∀ S, (∀ q, q < 64 → S q = 0) → ∃ n, wY_ends_25 post n 0 0 R C S) :
    ∀ d j n (S : Nat → Int32), j + d = 64 → d < n → (∀ q, q < j → S q = 0) → wY_ends_2 post n (nI j) R C S := by
  intro d
  induction d with
  | zero =>
    intro j n S hj hn hS
    obtain ⟨w, rfl⟩ : ∃ w, n = w + 1 := ⟨n - 1, by omega⟩
    exact br_t (nI_le (a := 64) (by omega) (by omega)) (hp S (fun q hq => hS q (by omega)))
  | succ d ih =>
    intro j n S hj hn hS
    obtain ⟨w, rfl⟩ : ∃ w, n = w + 1 := ⟨n - 1, by omega⟩
    refine br_f (nI_ge (b := 64) (by omega) (by decide)) ⟨vp_in_nI (by omega) (by omega), nm_e (nm_r (nI_1 j) ?_)⟩
    rw [nI_clamp (by omega)]
    refine ih (j + 1) w _ (by omega) (by omega) (fun q hq => ?_)
    by_cases e : q = j
    · subst e
      rw [pk_us]
      rfl
    · rw [pk_un e]
      exact hS q (by omega)
def aj_EN (h : Nat → Int32) : Nat := aj_sm (fun p => aj_sm (fun s => aj_ps (aj_MV h (some p) none none (some s) none)) 8) 8
theorem aj_ENE (h : Nat → Int32) : aj_sm (aj_D h 32768) 64 = aj_EN h := by
  have e1 := aj_sm_blk (aj_D h 32768) 8 8
  rw [show 8 * 8 = 64 from rfl] at e1
  rw [e1]
  unfold aj_EN
  refine aj_cg (fun p hp => aj_cg (fun s hs => ?_))
  unfold aj_D
  refine congrArg aj_ps ?_
  rw [aj_MV_eq]
  refine aj_cg (fun n _ => ?_)
  show aj_A h n * aj_e (8 * (n / 4096 % 8) + n / 8 % 8) (p * 8 + s) = (aj_e (n / 4096 % 8) p * 1 * 1 * aj_e (n / 8 % 8) s * 1) * aj_A h n
  rw [Nat.mul_comm 8 (n / 4096 % 8), ← aj_e3 (aj_m8 _) hs]
  simp only [Nat.mul_one]
  exact Nat.mul_comm _ _
theorem aj_xends {post : Int32 → Prop} (h : Nat → Int32) (hp : post (nI (aj_EN h))) : wpX_ends post h := by
  unfold wpX_ends
  refine aj_acc0 (fun n x1 x2 => wX_ends_4 post h n x1 x2) (fun p => aj_sm (fun s => aj_ps (aj_MV h (some p) none none (some s) none)) 8) 8 post ?_ ?_ 0 ?_
  · intro n a hk
    exact br_t (nI_le (a := 8) (Nat.le_refl _) (by decide)) hk
  · intro n p acc hpp hw
    refine br_f (nI_ge (b := 8) hpp (by decide)) ?_
    refine aj_acc0 (fun m x1 x3 => wX_ends_12 post (wX_ends_4 post h n) (nI p) h m x1 x3) (fun s => aj_ps (aj_MV h (some p) none none (some s) none)) 8 (fun z => wX_ends_4 post h n z (nI (p + 1))) ?_ ?_ acc hw
    · intro m z hk
      exact br_t (nI_le (a := 8) (Nat.le_refl _) (by decide)) (nm_r (nI_1 p) hk)
    · intro m s z hs hw2
      refine br_f (nI_ge (b := 8) hs (by decide)) ?_
      refine aj_mat h (some p) none none (some s) none hpp True.intro True.intro hs True.intro ?_
      refine aj_pos0 (aj_MV_le _ _ _ _ _ _) (fun e => ?_) (fun e => ?_)
      · rw [e, aj_ps_0, nI_0, Int32.add_zero] at hw2
        exact nm_r (nI_1 s) hw2
      · rw [aj_ps_p e] at hw2
        exact nm_e (nm_r (nI_1 s) hw2)
  · rw [Int32.zero_add]
    exact hp
theorem i_vc_ends {k : Nat} {u : SX} {v : SY} (I : i_Rel k u v) (hk : k + 4 ≤ 2048) : wpX_ends (fun r => wpY_ends (fun r' v' => r' = r ∧ i_Rel (k + 4) u v') v) u := by
  obtain ⟨C, S, rfl, hC⟩ := I
  refine aj_xends u ?_
  unfold wpY_ends
  dsimp only
  refine ⟨65, aj_yends2 (fun S' hS' => ?_) 64 0 65 S (by omega) (by omega) (fun q hq => by omega)⟩
  refine ⟨32769, ?_⟩
  have := aj_yends25 (post := fun r' v' => r' = nI (aj_EN u) ∧ i_Rel (k + 4) u v') (R := u) (C := C) (fun S'' => ⟨by rw [aj_ENE], C, S'', rfl, hC⟩) 32768 0 32769 S' (by omega) (by omega) (fun q hq => ⟨fun _ => rfl, fun _ => hS' q hq⟩)
  rw [aj_sm_z (fun q _ => aj_D0 u q), nI_0] at this
  exact this
