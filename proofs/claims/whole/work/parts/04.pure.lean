def aj_A (h : Nat → Int32) (n : Nat) : Nat := aj_T h 0 (n / 4096 % 8) (n / 512 % 8) * aj_T h 1 (n / 512 % 8) (n / 64 % 8) * aj_T h 2 (n / 64 % 8) (n / 8 % 8) * aj_T h 3 (n / 512 % 8) (n % 8)
def aj_M (p q r s t : Option Nat) (n : Nat) : Nat := aj_mt p (n / 4096 % 8) * aj_mt q (n / 512 % 8) * aj_mt r (n / 64 % 8) * aj_mt s (n / 8 % 8) * aj_mt t (n % 8)
theorem aj_mul01 {a b : Nat} (ha : a ≤ 1) (hb : b ≤ 1) : a * b ≤ 1 := Nat.mul_le_mul ha hb
theorem aj_A_le (h : Nat → Int32) (n : Nat) : aj_A h n ≤ 1 := aj_mul01 (aj_mul01 (aj_mul01 (aj_T_le _ _ _ _) (aj_T_le _ _ _ _)) (aj_T_le _ _ _ _)) (aj_T_le _ _ _ _)
theorem aj_M_le (p q r s t : Option Nat) (n : Nat) : aj_M p q r s t n ≤ 1 := aj_mul01 (aj_mul01 (aj_mul01 (aj_mul01 (aj_mt_le _ _) (aj_mt_le _ _)) (aj_mt_le _ _)) (aj_mt_le _ _)) (aj_mt_le _ _)
theorem aj_sm5 (f : Nat → Nat) : aj_sm f 32768 = aj_sm (fun x => aj_sm (fun y => aj_sm (fun z => aj_sm (fun s => aj_sm (fun t => f ((((x * 8 + y) * 8 + z) * 8 + s) * 8 + t)) 8) 8) 8) 8) 8 := by
  have e1 := aj_sm_blk f 8 4096
  have e2 := aj_sm_blk (fun m => aj_sm (fun d => f (m * 8 + d)) 8) 8 512
  have e3 := aj_sm_blk (fun m => aj_sm (fun d => aj_sm (fun d' => f ((m * 8 + d) * 8 + d')) 8) 8) 8 64
  have e4 := aj_sm_blk (fun m => aj_sm (fun d => aj_sm (fun d' => aj_sm (fun d'' => f (((m * 8 + d) * 8 + d') * 8 + d'')) 8) 8) 8) 8 8
  rw [show 4096 * 8 = 32768 from rfl] at e1
  rw [show 512 * 8 = 4096 from rfl] at e2
  rw [show 64 * 8 = 512 from rfl] at e3
  rw [show 8 * 8 = 64 from rfl] at e4
  rw [e1, e2, e3, e4]
theorem aj_FT_l (h : Nat → Int32) (i y : Nat) (o : Option Nat) (hy : y < 8) : aj_FT h i (some y) o = aj_sm (fun x => aj_mt o x * aj_T h i y x) 8 := by
  unfold aj_FT
  rw [aj_sm_one (v := y) hy (fun x _ hn => by show aj_e x y * _ = 0; rw [aj_e_f hn, Nat.zero_mul])]
  show aj_e y y * _ = _
  rw [aj_e_t rfl, Nat.one_mul]
theorem aj_FT_r (h : Nat → Int32) (i y : Nat) (o : Option Nat) (hy : y < 8) : aj_FT h i o (some y) = aj_sm (fun x => aj_mt o x * aj_T h i x y) 8 := by
  unfold aj_FT
  refine aj_cg (fun x _ => congrArg _ ?_)
  rw [aj_sm_one (v := y) hy (fun x _ hn => by show aj_e x y * _ = 0; rw [aj_e_f hn, Nat.zero_mul])]
  show aj_e y y * _ = _
  rw [aj_e_t rfl, Nat.one_mul]
theorem aj_FT_lr (h : Nat → Int32) (i y z : Nat) (hy : y < 8) (hz : z < 8) : aj_FT h i (some y) (some z) = aj_T h i y z := by
  rw [aj_FT_l h i y _ hy]
  rw [aj_sm_one (v := z) hz (fun x _ hn => by show aj_e x z * _ = 0; rw [aj_e_f hn, Nat.zero_mul])]
  show aj_e z z * _ = _
  rw [aj_e_t rfl, Nat.one_mul]
theorem aj_MV_eq (h : Nat → Int32) (p q r s t : Option Nat) : aj_MV h p q r s t = aj_sm (fun n => aj_M p q r s t n * aj_A h n) 32768 := by
  rw [aj_sm5]
  have e1 : ∀ x y z, x < 8 → y < 8 → z < 8 → aj_sm (fun s' => aj_sm (fun t' => aj_M p q r s t ((((x * 8 + y) * 8 + z) * 8 + s') * 8 + t') * aj_A h ((((x * 8 + y) * 8 + z) * 8 + s') * 8 + t')) 8) 8 = (aj_mt p x * aj_T h 0 x y) * (aj_mt q y * aj_mt r z * aj_T h 1 y z * (aj_sm (fun s' => aj_mt s s' * aj_T h 2 z s') 8) * (aj_sm (fun t' => aj_mt t t' * aj_T h 3 y t') 8)) := by
    intro x y z hx hy hz
    have e2 : ∀ s' t', s' < 8 → t' < 8 → aj_M p q r s t ((((x * 8 + y) * 8 + z) * 8 + s') * 8 + t') * aj_A h ((((x * 8 + y) * 8 + z) * 8 + s') * 8 + t') = ((aj_mt p x * aj_T h 0 x y) * (aj_mt q y * aj_mt r z * aj_T h 1 y z * (aj_mt s s' * aj_T h 2 z s'))) * (aj_mt t t' * aj_T h 3 y t') := by
      intro s' t' hs ht
      unfold aj_M aj_A
      rw [show ((((x * 8 + y) * 8 + z) * 8 + s') * 8 + t') / 4096 % 8 = x from by omega, show ((((x * 8 + y) * 8 + z) * 8 + s') * 8 + t') / 512 % 8 = y from by omega, show ((((x * 8 + y) * 8 + z) * 8 + s') * 8 + t') / 64 % 8 = z from by omega, show ((((x * 8 + y) * 8 + z) * 8 + s') * 8 + t') / 8 % 8 = s' from by omega, show ((((x * 8 + y) * 8 + z) * 8 + s') * 8 + t') % 8 = t' from by omega]
      ac_rfl
    rw [aj_cg (g := fun s' => ((aj_mt p x * aj_T h 0 x y) * (aj_mt q y * aj_mt r z * aj_T h 1 y z)) * (aj_mt s s' * aj_T h 2 z s') * (aj_sm (fun t' => aj_mt t t' * aj_T h 3 y t') 8)) (fun s' hs => by
      rw [aj_cg (fun t' ht => e2 s' t' hs ht), aj_sm_mul]
      ac_rfl)]
    rw [aj_sm_mulr, aj_sm_mul]
    ac_rfl
  rw [aj_cg (fun x hx => aj_cg (fun y hy => aj_cg (fun z hz => e1 x y z hx hy hz)))]
  rw [aj_sm_swap]
  unfold aj_MV
  refine aj_cg (fun y hy => ?_)
  rw [aj_sm_swap, ← aj_sm_mul]
  refine aj_cg (fun z hz => ?_)
  rw [aj_sm_mulr, aj_FT_r h 0 y p hy, aj_FT_l h 3 y t hy, aj_FT_lr h 1 y z hy hz, aj_FT_l h 2 z s hz]
  ac_rfl
theorem aj_MV_le (h : Nat → Int32) (p q r s t : Option Nat) : aj_MV h p q r s t ≤ 32768 := by
  rw [aj_MV_eq]
  exact aj_sm_bd (fun i _ => aj_mul01 (aj_M_le _ _ _ _ _ _) (aj_A_le _ _))
