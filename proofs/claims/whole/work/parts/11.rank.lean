theorem aj_dsum (h : Nat → Int32) (c e : Nat) (hc : c < 5) : ∀ d, d ≤ 8 → aj_sm (aj_A h) (aj_rv c e * 8 * 8 ^ (4 - c)) + aj_sm (fun v => aj_AV h c (e % 8 ^ c + v * 8 ^ c)) d = aj_sm (aj_A h) ((aj_rv c e * 8 + d) * 8 ^ (4 - c)) := by
  intro d
  induction d with
  | zero => intro _; rfl
  | succ d ih =>
    intro hd
    rw [aj_sm_s, ← Nat.add_assoc, ih (by omega)]
    exact aj_step h c e d hc (by omega)
def aj_RK (h : Nat → Int32) (e c : Nat) : Nat := aj_sm (fun v => aj_AV h c (e % 8 ^ c + v * 8 ^ c)) (e / 8 ^ c % 8)
theorem aj_rks (h : Nat → Int32) (e : Nat) : ∀ c, c ≤ 5 → aj_sm (aj_RK h e) c = aj_sm (aj_A h) (aj_rv c e * 8 ^ (5 - c)) := by
  intro c
  induction c with
  | zero =>
    intro _
    show 0 = aj_sm (aj_A h) (0 * 8 ^ 5)
    rw [Nat.zero_mul]
    rfl
  | succ c ih =>
    intro hc
    rw [aj_sm_s, ih (by omega), show 5 - c = (4 - c) + 1 from by omega, Nat.pow_succ, Nat.mul_comm (8 ^ (4 - c)) 8, ← Nat.mul_assoc]
    rw [show 5 - (c + 1) = 4 - c from by omega]
    exact aj_dsum h c e (by omega) (e / 8 ^ c % 8) (Nat.le_of_lt (aj_m8 _))
theorem aj_xrank {post : Int32 → Prop} (h : Nat → Int32) (e : Nat) (he : e < 32768) (hp : post (nI (aj_sm (aj_A h) (aj_rv 5 e)))) : ∃ n, wX_rank_13 post (nI e) h n 0 0 := by
  refine aj_acc0 (fun n x2 x3 => wX_rank_13 post (nI e) h n x2 x3) (aj_RK h e) 5 post ?_ ?_ 0 ?_
  · intro n a hk
    exact br_t (nI_le (a := 5) (Nat.le_refl _) (by decide)) hk
  · intro n c acc hc hw
    refine br_f (nI_ge (b := 5) hc (by decide)) ?_
    refine nm_r (aj_lowE he hc) ?_
    refine aj_dig c he hc ?_
    have hd := aj_m8 (e / 8 ^ c)
    have hlow : e % 8 ^ c < 8 ^ c := Nat.mod_lt _ (Nat.pow_pos (by decide))
    refine aj_acc0 (fun m x2 x6 => wX_rank_39 post (wX_rank_13 post (nI e) h n) (nI e) (nI c) (nI (e % 8 ^ c)) (nI (e / 8 ^ c % 8)) h m x2 x6) (fun v => aj_AV h c (e % 8 ^ c + v * 8 ^ c)) (e / 8 ^ c % 8) (fun z => wX_rank_13 post (nI e) h n z (nI (c + 1))) ?_ ?_ acc hw
    · intro m z hk
      exact br_t (nI_le (Nat.le_refl _) (by omega)) (nm_r (nI_1 c) hk)
    · intro m v z hv hw2
      refine br_f (nI_ge hv (by omega)) ?_
      rw [aj_shlE (by omega) hc, nI_add]
      have h1 := aj_ext hc hlow (v := v) (by omega)
      have h2 := aj_ple hc
      refine aj_agr h c _ (by omega) hc ?_ (nI_1 c)
      exact nm_e (nm_r (nI_1 v) hw2)
  · rw [Int32.zero_add, aj_rks h e 5 (by omega), show aj_rv 5 e * 8 ^ (5 - 5) = aj_rv 5 e from Nat.mul_one _]
    exact hp
theorem i_vc_rank {k : Nat} {u : SX} {v : SY} (I : i_Rel k u v) (hk : k + 4 ≤ 2048) (v1 : Int32) : wpX_rank (fun r => wpY_rank (fun r' => r' = r ∧ i_Rel (k + 4) u v) v v1) u v1 := by
  have I' := I
  obtain ⟨C, S, rfl, hC⟩ := I
  have h1 := pk_ix v1 (n := 32768) (by decide)
  rw [← or_assoc] at h1
  rcases h1 with h1 | ⟨e, he, rfl⟩
  · unfold wpX_rank wpY_rank wpY_isCode
    dsimp only
    refine aj_out h1 (br_t rfl ?_)
    exact aj_outl h1 (br_t rfl ⟨rfl, I'⟩)
  · unfold wpX_rank wpY_rank wpY_isCode
    dsimp only
    refine aj_inn 32768 he (by decide) ?_
    refine br_f (by decide) ?_
    refine aj_xrank u e he ?_
    refine aj_innl 32767 (by omega) (by decide) ?_
    refine br_f (by decide) ?_
    refine aj_ynum he ?_
    exact aj_yrank21 (aj_rv 5 e) (Nat.le_of_lt (aj_rv_lt 5 e)) ⟨rfl, I'⟩
def aj_cd (n : Nat) : Nat := (((aj_vi n 4 * 8 + aj_vi n 3) * 8 + aj_vi n 2) * 8 + aj_vi n 1) * 8 + aj_vi n 0
theorem aj_ycode {post : Int32 → Prop} {R C S : Nat → Int32} {n : Nat} (hn : n < 32768) (hp : post (nI (aj_cd n))) : wpY_code post (R, C, S) (nI n) := by
  unfold wpY_code
  dsimp only
  have st : ∀ (c m a : Nat) (x : Int32), c < 5 → nI c + (-1) = x → wY_code_4 post (nI n) R C S m (nI (a * 8 + aj_vi n c)) x → wY_code_4 post (nI n) R C S (m + 1) (nI a) (nI c) := by
    intro c m a x hc hx hw
    refine br_f (nI_pos (by omega)) ?_
    refine aj_yval c hn hc ?_
    refine nm_r (e' := nI (a * 8 + aj_vi n c)) ?_ (nm_r hx hw)
    rw [show (8 : Int32) = nI 8 from rfl, pk_mul, nI_add, Nat.mul_comm]
  refine ⟨6, ?_⟩
  refine st 4 5 0 (nI 3) (by omega) (pk_m1 3) ?_
  refine st 3 4 _ (nI 2) (by omega) (pk_m1 2) ?_
  refine st 2 3 _ (nI 1) (by omega) (pk_m1 1) ?_
  refine st 1 2 _ (nI 0) (by omega) (pk_m1 0) ?_
  refine st 0 1 _ (-1) (by omega) (by decide) ?_
  refine br_t (by decide) ?_
  rw [Nat.zero_mul, Nat.zero_add]
  exact hp
theorem aj_dec {e : Nat} (he : e < 32768) : (((e / 4096 % 8 * 8 + e / 512 % 8) * 8 + e / 64 % 8) * 8 + e / 8 % 8) * 8 + e % 8 = e := by
  rw [show e / 4096 % 8 = e / 4096 from by omega, show e / 4096 * 8 + e / 512 % 8 = e / 512 from by omega, show e / 512 * 8 + e / 64 % 8 = e / 64 from by omega, show e / 64 * 8 + e / 8 % 8 = e / 8 from by omega]
  omega
theorem aj_dg5 {x y z s t : Nat} (hx : x < 8) (hy : y < 8) (hz : z < 8) (hs : s < 8) (ht : t < 8) : aj_cd ((((x * 8 + y) * 8 + z) * 8 + s) * 8 + t) = (((t * 8 + s) * 8 + z) * 8 + y) * 8 + x := by
  show (((((((x * 8 + y) * 8 + z) * 8 + s) * 8 + t) / 1 % 8 * 8 + ((((x * 8 + y) * 8 + z) * 8 + s) * 8 + t) / 8 % 8) * 8 + ((((x * 8 + y) * 8 + z) * 8 + s) * 8 + t) / 64 % 8) * 8 + ((((x * 8 + y) * 8 + z) * 8 + s) * 8 + t) / 512 % 8) * 8 + ((((x * 8 + y) * 8 + z) * 8 + s) * 8 + t) / 4096 % 8 = _
  rw [show ((((x * 8 + y) * 8 + z) * 8 + s) * 8 + t) / 4096 % 8 = x from by omega, show ((((x * 8 + y) * 8 + z) * 8 + s) * 8 + t) / 512 % 8 = y from by omega, show ((((x * 8 + y) * 8 + z) * 8 + s) * 8 + t) / 64 % 8 = z from by omega, show ((((x * 8 + y) * 8 + z) * 8 + s) * 8 + t) / 8 % 8 = s from by omega, show ((((x * 8 + y) * 8 + z) * 8 + s) * 8 + t) / 1 % 8 = t from by omega]
theorem aj_cdrv {e : Nat} (he : e < 32768) : aj_cd (aj_rv 5 e) = e := by
  have er : aj_rv 5 e = ((((0 * 8 + e / 1 % 8) * 8 + e / 8 % 8) * 8 + e / 64 % 8) * 8 + e / 512 % 8) * 8 + e / 4096 % 8 := rfl
  rw [er, Nat.zero_mul, Nat.zero_add, Nat.div_one e, aj_dg5 (aj_m8 _) (aj_m8 _) (aj_m8 _) (aj_m8 _) (aj_m8 _)]
  exact aj_dec he
