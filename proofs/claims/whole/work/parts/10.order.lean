def aj_rv : Nat → Nat → Nat
  | 0, _ => 0
  | c + 1, e => aj_rv c e * 8 + e / 8 ^ c % 8
theorem aj_e3 {x y a b : Nat} (hy : y < 8) (hb : b < 8) : aj_e x a * aj_e y b = aj_e (x * 8 + y) (a * 8 + b) := by
  by_cases ex : x = a
  · by_cases ey : y = b
    · rw [aj_e_t ex, aj_e_t ey, aj_e_t (by omega)]
    · rw [aj_e_f ey, Nat.mul_zero, aj_e_f (a := x * 8 + y) (b := a * 8 + b) (by omega)]
  · rw [aj_e_f ex, Nat.zero_mul, aj_e_f (a := x * 8 + y) (b := a * 8 + b) (by omega)]
theorem aj_m8 (x : Nat) : x % 8 < 8 := Nat.mod_lt _ (by decide)
theorem aj_AV_eq (h : Nat → Int32) (c e : Nat) (hc : c < 5) : aj_AV h c e = aj_sm (fun n => aj_e (n / 8 ^ (4 - c)) (aj_rv (c + 1) e) * aj_A h n) 32768 := by
  have hj' : c = 0 ∨ c = 1 ∨ c = 2 ∨ c = 3 ∨ c = 4 := by omega
  unfold aj_AV
  rw [aj_MV_eq]
  refine aj_cg (fun n hn => ?_)
  refine congrArg (fun z => z * aj_A h n) ?_
  rcases hj' with rfl | rfl | rfl | rfl | rfl
  · show aj_e (n / 4096 % 8) (e / 8 ^ 0 % 8) * 1 * 1 * 1 * 1 = aj_e (n / 4096) (0 * 8 + e / 8 ^ 0 % 8)
    simp only [Nat.mul_one]
    rw [Nat.zero_mul, Nat.zero_add, show n / 4096 % 8 = n / 4096 from by omega]
  · show aj_e (n / 4096 % 8) (e / 8 ^ 0 % 8) * aj_e (n / 512 % 8) (e / 8 ^ 1 % 8) * 1 * 1 * 1 = aj_e (n / 512) ((0 * 8 + e / 8 ^ 0 % 8) * 8 + e / 8 ^ 1 % 8)
    simp only [Nat.mul_one]
    rw [Nat.zero_mul, Nat.zero_add, aj_e3 (aj_m8 _) (aj_m8 _), show n / 4096 % 8 * 8 + n / 512 % 8 = n / 512 from by omega]
  · show aj_e (n / 4096 % 8) (e / 8 ^ 0 % 8) * aj_e (n / 512 % 8) (e / 8 ^ 1 % 8) * aj_e (n / 64 % 8) (e / 8 ^ 2 % 8) * 1 * 1 = aj_e (n / 64) (((0 * 8 + e / 8 ^ 0 % 8) * 8 + e / 8 ^ 1 % 8) * 8 + e / 8 ^ 2 % 8)
    simp only [Nat.mul_one]
    rw [Nat.zero_mul, Nat.zero_add, aj_e3 (aj_m8 _) (aj_m8 _), aj_e3 (aj_m8 _) (aj_m8 _), show (n / 4096 % 8 * 8 + n / 512 % 8) * 8 + n / 64 % 8 = n / 64 from by omega]
  · show aj_e (n / 4096 % 8) (e / 8 ^ 0 % 8) * aj_e (n / 512 % 8) (e / 8 ^ 1 % 8) * aj_e (n / 64 % 8) (e / 8 ^ 2 % 8) * aj_e (n / 8 % 8) (e / 8 ^ 3 % 8) * 1 = aj_e (n / 8) ((((0 * 8 + e / 8 ^ 0 % 8) * 8 + e / 8 ^ 1 % 8) * 8 + e / 8 ^ 2 % 8) * 8 + e / 8 ^ 3 % 8)
    simp only [Nat.mul_one]
    rw [Nat.zero_mul, Nat.zero_add, aj_e3 (aj_m8 _) (aj_m8 _), aj_e3 (aj_m8 _) (aj_m8 _), aj_e3 (aj_m8 _) (aj_m8 _), show ((n / 4096 % 8 * 8 + n / 512 % 8) * 8 + n / 64 % 8) * 8 + n / 8 % 8 = n / 8 from by omega]
  · show aj_e (n / 4096 % 8) (e / 8 ^ 0 % 8) * aj_e (n / 512 % 8) (e / 8 ^ 1 % 8) * aj_e (n / 64 % 8) (e / 8 ^ 2 % 8) * aj_e (n / 8 % 8) (e / 8 ^ 3 % 8) * aj_e (n % 8) (e / 8 ^ 4 % 8) = aj_e (n / 1) (((((0 * 8 + e / 8 ^ 0 % 8) * 8 + e / 8 ^ 1 % 8) * 8 + e / 8 ^ 2 % 8) * 8 + e / 8 ^ 3 % 8) * 8 + e / 8 ^ 4 % 8)
    rw [Nat.zero_mul, Nat.zero_add, aj_e3 (aj_m8 _) (aj_m8 _), aj_e3 (aj_m8 _) (aj_m8 _), aj_e3 (aj_m8 _) (aj_m8 _), aj_e3 (aj_m8 _) (aj_m8 _), show (((n / 4096 % 8 * 8 + n / 512 % 8) * 8 + n / 64 % 8) * 8 + n / 8 % 8) * 8 + n % 8 = n from by omega, Nat.div_one n]
theorem aj_rv_lt (c e : Nat) : aj_rv c e < 8 ^ c := by
  induction c with
  | zero => exact Nat.one_pos
  | succ c ih =>
    show aj_rv c e * 8 + e / 8 ^ c % 8 < 8 ^ (c + 1)
    have := aj_m8 (e / 8 ^ c)
    rw [Nat.pow_succ]
    omega
theorem aj_rv_app (c e v : Nat) (hc : c < 5) (hv : v < 8) : aj_rv (c + 1) (e % 8 ^ c + v * 8 ^ c) = aj_rv c e * 8 + v := by
  have hj' : c = 0 ∨ c = 1 ∨ c = 2 ∨ c = 3 ∨ c = 4 := by omega
  rcases hj' with rfl | rfl | rfl | rfl | rfl
  · show 0 * 8 + (e % 1 + v * 1) / 1 % 8 = 0 * 8 + v
    omega
  · show (0 * 8 + (e % 8 + v * 8) / 1 % 8) * 8 + (e % 8 + v * 8) / 8 % 8 = (0 * 8 + e / 1 % 8) * 8 + v
    omega
  · show ((0 * 8 + (e % 64 + v * 64) / 1 % 8) * 8 + (e % 64 + v * 64) / 8 % 8) * 8 + (e % 64 + v * 64) / 64 % 8 = ((0 * 8 + e / 1 % 8) * 8 + e / 8 % 8) * 8 + v
    rw [show (e % 64 + v * 64) / 1 % 8 = e / 1 % 8 from by omega, show (e % 64 + v * 64) / 8 % 8 = e / 8 % 8 from by omega, show (e % 64 + v * 64) / 64 % 8 = v from by omega]
  · show (((0 * 8 + (e % 512 + v * 512) / 1 % 8) * 8 + (e % 512 + v * 512) / 8 % 8) * 8 + (e % 512 + v * 512) / 64 % 8) * 8 + (e % 512 + v * 512) / 512 % 8 = (((0 * 8 + e / 1 % 8) * 8 + e / 8 % 8) * 8 + e / 64 % 8) * 8 + v
    rw [show (e % 512 + v * 512) / 1 % 8 = e / 1 % 8 from by omega, show (e % 512 + v * 512) / 8 % 8 = e / 8 % 8 from by omega, show (e % 512 + v * 512) / 64 % 8 = e / 64 % 8 from by omega, show (e % 512 + v * 512) / 512 % 8 = v from by omega]
  · show ((((0 * 8 + (e % 4096 + v * 4096) / 1 % 8) * 8 + (e % 4096 + v * 4096) / 8 % 8) * 8 + (e % 4096 + v * 4096) / 64 % 8) * 8 + (e % 4096 + v * 4096) / 512 % 8) * 8 + (e % 4096 + v * 4096) / 4096 % 8 = ((((0 * 8 + e / 1 % 8) * 8 + e / 8 % 8) * 8 + e / 64 % 8) * 8 + e / 512 % 8) * 8 + v
    rw [show (e % 4096 + v * 4096) / 1 % 8 = e / 1 % 8 from by omega, show (e % 4096 + v * 4096) / 8 % 8 = e / 8 % 8 from by omega, show (e % 4096 + v * 4096) / 64 % 8 = e / 64 % 8 from by omega, show (e % 4096 + v * 4096) / 512 % 8 = e / 512 % 8 from by omega, show (e % 4096 + v * 4096) / 4096 % 8 = v from by omega]
theorem aj_blk1 (f : Nat → Nat) (a W m : Nat) (hW : 0 < W) (hm : m < a) : aj_sm f (m * W) + aj_sm (fun n => aj_e (n / W) m * f n) (a * W) = aj_sm f ((m + 1) * W) := by
  rw [aj_sm_blk (fun n => aj_e (n / W) m * f n) W a, Nat.succ_mul, aj_sm_split]
  refine congrArg _ ?_
  rw [aj_sm_one (v := m) hm (fun i _ hn => aj_sm_z (fun d hd => by
    rw [show (i * W + d) / W = i from by rw [Nat.mul_comm, Nat.mul_add_div hW, Nat.div_eq_of_lt hd, Nat.add_zero], aj_e_f hn, Nat.zero_mul]))]
  exact aj_cg (fun d hd => by
    rw [show (m * W + d) / W = m from by rw [Nat.mul_comm, Nat.mul_add_div hW, Nat.div_eq_of_lt hd, Nat.add_zero], aj_e_t rfl, Nat.one_mul])
theorem aj_pw (c : Nat) (hc : c < 5) : 8 ^ (c + 1) * 8 ^ (4 - c) = 32768 := by
  rw [← Nat.pow_add, show c + 1 + (4 - c) = 5 from by omega]
theorem aj_step (h : Nat → Int32) (c e v : Nat) (hc : c < 5) (hv : v < 8) : aj_sm (aj_A h) ((aj_rv c e * 8 + v) * 8 ^ (4 - c)) + aj_AV h c (e % 8 ^ c + v * 8 ^ c) = aj_sm (aj_A h) ((aj_rv c e * 8 + v + 1) * 8 ^ (4 - c)) := by
  rw [aj_AV_eq h c _ hc, aj_rv_app c e v hc hv, ← aj_pw c hc]
  refine aj_blk1 (aj_A h) (8 ^ (c + 1)) (8 ^ (4 - c)) _ (Nat.pow_pos (by decide)) ?_
  have := aj_rv_lt c e
  rw [Nat.pow_succ]
  omega
theorem aj_AV_le (h : Nat → Int32) (c e : Nat) : aj_AV h c e ≤ 32768 := aj_MV_le _ _ _ _ _ _
theorem aj_ynum {post : Int32 → Prop} {R C S : Nat → Int32} {e : Nat} (he : e < 32768) (hp : post (nI (aj_rv 5 e))) : wpY_number post (R, C, S) (nI e) := by
  unfold wpY_number
  dsimp only
  have st : ∀ c n, c < 5 → wY_number_4 post (nI e) R C S n (nI (aj_rv (c + 1) e)) (nI (c + 1)) → wY_number_4 post (nI e) R C S (n + 1) (nI (aj_rv c e)) (nI c) := by
    intro c n hc hw
    refine br_f (nI_ge (b := 5) hc (by decide)) ?_
    refine nm_r (e' := nI (aj_rv (c + 1) e)) ?_ (nm_r (nI_1 c) hw)
    rw [aj_digE he hc, show (8 : Int32) = nI 8 from rfl, pk_mul, nI_add, Nat.mul_comm]
    rfl
  refine ⟨6, ?_⟩
  refine st 0 5 (by omega) (st 1 4 (by omega) (st 2 3 (by omega) (st 3 2 (by omega) (st 4 1 (by omega) ?_))))
  exact br_t (nI_le (a := 5) (Nat.le_refl _) (by decide)) hp
theorem aj_AV4 (h : Nat → Int32) (e : Nat) : aj_AV h 4 e = aj_A h (aj_rv 5 e) := by
  rw [aj_AV_eq h 4 e (by omega), aj_sm_one (v := aj_rv 5 e) (aj_rv_lt 5 e) (fun n _ hn => by
    rw [show n / 8 ^ (4 - 4) = n from Nat.div_one n, aj_e_f hn, Nat.zero_mul])]
  rw [show aj_rv 5 e / 8 ^ (4 - 4) = aj_rv 5 e from Nat.div_one _, aj_e_t rfl, Nat.one_mul]
theorem i_vc_has {k : Nat} {u : SX} {v : SY} (I : i_Rel k u v) (hk : k + 4 ≤ 2048) (v1 : Int32) : wpX_has (fun r => wpY_has (fun r' => r' = r ∧ i_Rel (k + 4) u v) v v1) u v1 := by
  have I' := I
  obtain ⟨C, S, rfl, hC⟩ := I
  have h1 := pk_ix v1 (n := 32768) (by decide)
  rw [← or_assoc] at h1
  rcases h1 with h1 | ⟨e, he, rfl⟩
  · unfold wpX_has wpY_has wpY_isCode
    dsimp only
    refine aj_out h1 (br_t rfl ?_)
    exact aj_outl h1 (br_t rfl ⟨rfl, I'⟩)
  · unfold wpX_has wpY_has wpY_isCode
    dsimp only
    refine aj_inn 32768 he (by decide) ?_
    refine br_f (by decide) ?_
    refine aj_agr u 4 e he (by omega) ?_
    rw [aj_AV4]
    rcases aj_A01 u (aj_rv 5 e) with z | z
    · rw [z]
      refine br_t (by decide) ?_
      refine aj_innl 32767 (by omega) (by decide) ?_
      refine br_f (by decide) ?_
      refine aj_ynum he ?_
      refine aj_yans (aj_rv_lt 5 e) ?_
      rw [z]
      exact ⟨rfl, rfl, I'⟩
    · rw [z]
      refine br_f (by decide) ?_
      refine aj_innl 32767 (by omega) (by decide) ?_
      refine br_f (by decide) ?_
      refine aj_ynum he ?_
      refine aj_yans (aj_rv_lt 5 e) ?_
      rw [z]
      exact ⟨rfl, rfl, I'⟩
theorem aj_shlE {v c : Nat} (hv : v < 8) (hc : c < 5) : nI v <<< ((3 * nI c) &&& 31) = nI (v * 8 ^ c) := by
  have hj' : c = 0 ∨ c = 1 ∨ c = 2 ∨ c = 3 ∨ c = 4 := by omega
  rcases hj' with rfl | rfl | rfl | rfl | rfl
  · exact pk_shlN _ 0 (by decide) (by omega)
  · exact pk_shlN _ 3 (by decide) (by omega)
  · exact pk_shlN _ 6 (by decide) (by omega)
  · exact pk_shlN _ 9 (by decide) (by omega)
  · exact pk_shlN _ 12 (by decide) (by omega)
theorem aj_lowE {e c : Nat} (he : e < 32768) (hc : c < 5) : nI e &&& (((1 : Int32) <<< ((3 * nI c) &&& 31)) - 1) = nI (e % 8 ^ c) := by
  have hj' : c = 0 ∨ c = 1 ∨ c = 2 ∨ c = 3 ∨ c = 4 := by omega
  rcases hj' with rfl | rfl | rfl | rfl | rfl
  · exact pk_andN (by omega) 0 (by decide)
  · exact pk_andN (by omega) 3 (by decide)
  · exact pk_andN (by omega) 6 (by decide)
  · exact pk_andN (by omega) 9 (by decide)
  · exact pk_andN (by omega) 12 (by decide)
theorem aj_ext {e c v : Nat} (hc : c < 5) (he : e < 8 ^ c) (hv : v < 8) : e + v * 8 ^ c < 8 ^ (c + 1) := by
  have h1 : v * 8 ^ c ≤ 7 * 8 ^ c := Nat.mul_le_mul_right _ (by omega)
  rw [Nat.pow_succ]
  omega
theorem aj_ple {c : Nat} (hc : c < 5) : 8 ^ (c + 1) ≤ 32768 := Nat.pow_le_pow_right (n := 8) (by decide) (show c + 1 ≤ 5 from hc)
