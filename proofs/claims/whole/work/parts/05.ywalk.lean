def aj_vi (n c : Nat) : Nat := n / 8 ^ (4 - c) % 8
theorem aj_vi_lt (n c : Nat) : aj_vi n c < 8 := Nat.mod_lt _ (by decide)
theorem aj_viE {n c : Nat} (hn : n < 32768) (hc : c < 5) : ((nI n) >>> ((12 - (3 * nI c)) &&& 31)) &&& 7 = nI (aj_vi n c) := by
  have hj' : c = 0 ∨ c = 1 ∨ c = 2 ∨ c = 3 ∨ c = 4 := by omega
  have key : ∀ (s : Int32) (k : Nat), (s.toBitVec.smod 32).toNat = k → (nI n >>> s) &&& 7 = nI (n / 2 ^ k % 8) := by
    intro s k hs
    rw [pk_shrN (by omega) s k hs, pk_andN (Nat.lt_of_le_of_lt (Nat.div_le_self _ _) (by omega)) 3 (by decide)]
  rcases hj' with rfl | rfl | rfl | rfl | rfl
  · exact key _ 12 (by decide)
  · exact key _ 9 (by decide)
  · exact key _ 6 (by decide)
  · exact key _ 3 (by decide)
  · exact key _ 0 (by decide)
theorem aj_yval {post : Int32 → Prop} {R C S : Nat → Int32} {n : Nat} (c : Nat) (hn : n < 32768) (hc : c < 5) (hp : post (nI (aj_vi n c))) {p1 : Int32} (e1 : p1 = nI c := by rfl) : wpY_valueIn post (R, C, S) (nI n) p1 := by
  subst e1
  unfold wpY_valueIn
  dsimp only
  rw [aj_viE hn hc]
  exact hp
def aj_f1 (i : Nat) : Nat := match i with
  | 0 => 0
  | 1 => 1
  | 2 => 2
  | _ => 1
def aj_f2 (i : Nat) : Nat := match i with
  | 0 => 1
  | 1 => 2
  | 2 => 3
  | _ => 4
def aj_ro (n i : Nat) : Nat := 64 * i + 8 * aj_vi n (aj_f1 i) + aj_vi n (aj_f2 i)
theorem aj_yrow46 {post : Int32 → Prop} {R C S : Nat → Int32} {n : Nat} (i c d : Nat) (hn : n < 32768) (hc : c < 5) (hd : d < 5) (hp : post (nI (64 * i + 8 * aj_vi n c + aj_vi n d))) {x2 x3 z0 : Int32} (e1 : x2 = nI i := by rfl) (e2 : x3 = nI c := by rfl) (e3 : z0 = nI d := by rfl) : wY_rowOf_46 post (nI n) x2 x3 z0 R C S := by
  subst e1
  unfold wY_rowOf_46
  refine aj_yval c hn hc ?_ e2
  refine aj_yval d hn hd ?_ e3
  rw [show (64 : Int32) = nI 64 from rfl, show (8 : Int32) = nI 8 from rfl, pk_mul, pk_mul, nI_add, nI_add]
  exact hp
theorem aj_yrow {post : Int32 → Prop} {R C S : Nat → Int32} {n : Nat} (i : Nat) (hn : n < 32768) (hi : i < 4) (hp : post (nI (aj_ro n i))) {p1 : Int32} (e1 : p1 = nI i := by rfl) : wpY_rowOf post (R, C, S) (nI n) p1 := by
  subst e1
  have hj' : i = 0 ∨ i = 1 ∨ i = 2 ∨ i = 3 := by omega
  unfold wpY_rowOf
  dsimp only
  rcases hj' with rfl | rfl | rfl | rfl
  · refine br_t (by decide) ?_
    exact br_t (by decide) (aj_yrow46 0 0 1 hn (by omega) (by omega) hp)
  · refine br_f (by decide) (br_f (by decide) ?_)
    exact br_f (by decide) (br_t (by decide) (aj_yrow46 1 1 2 hn (by omega) (by omega) hp))
  · refine br_f (by decide) (br_t (by decide) ?_)
    exact br_f (by decide) (br_f (by decide) (br_t (by decide) (aj_yrow46 2 2 3 hn (by omega) (by omega) hp)))
  · refine br_f (by decide) (br_f (by decide) ?_)
    exact br_f (by decide) (br_f (by decide) (br_f (by decide) (aj_yrow46 3 1 4 hn (by omega) (by omega) hp)))
theorem aj_yans {post : Int32 → Prop} {R C S : Nat → Int32} {n : Nat} (hn : n < 32768) (hp : post (nI (aj_A R n))) : wpY_isAnswer post (R, C, S) (nI n) := by
  have c1 : (64 : Int32) + ((nI n >>> ((6 : Int32) &&& 31)) &&& 63) = nI (64 + n / 64 % 64) := by
    rw [pk_shrN (by omega) _ 6 (by decide), pk_andN (Nat.lt_of_le_of_lt (Nat.div_le_self _ _) (by omega)) 6 (by decide), show (64 : Int32) = nI 64 from rfl, nI_add]
  have c0 : nI n >>> ((9 : Int32) &&& 31) = nI (n / 512) := pk_shrN (by omega) _ 9 (by decide)
  have c2 : (128 : Int32) + ((nI n >>> ((3 : Int32) &&& 31)) &&& 63) = nI (128 + n / 8 % 64) := by
    rw [pk_shrN (by omega) _ 3 (by decide), pk_andN (Nat.lt_of_le_of_lt (Nat.div_le_self _ _) (by omega)) 6 (by decide), show (128 : Int32) = nI 128 from rfl, nI_add]
  unfold wpY_isAnswer
  dsimp only
  rw [c1, c0, c2]
  unfold aj_A at hp
  have k1 : aj_T R 1 (n / 512 % 8) (n / 64 % 8) = if R (64 + n / 64 % 64) = 0 then 0 else 1 := by
    unfold aj_T
    rw [show (1 * 8 + n / 512 % 8) * 8 + n / 64 % 8 = 64 + n / 64 % 64 from by omega]
  have k0 : aj_T R 0 (n / 4096 % 8) (n / 512 % 8) = if R (n / 512) = 0 then 0 else 1 := by
    unfold aj_T
    rw [show (0 * 8 + n / 4096 % 8) * 8 + n / 512 % 8 = n / 512 from by omega]
  have k2 : aj_T R 2 (n / 64 % 8) (n / 8 % 8) = if R (128 + n / 8 % 64) = 0 then 0 else 1 := by
    unfold aj_T
    rw [show (2 * 8 + n / 64 % 8) * 8 + n / 8 % 8 = 128 + n / 8 % 64 from by omega]
  have k3 : aj_T R 3 (n / 512 % 8) (n % 8) = if R (aj_ro n 3) = 0 then 0 else 1 := by
    unfold aj_T
    rw [show (3 * 8 + n / 512 % 8) * 8 + n % 8 = aj_ro n 3 from by
      show _ = 64 * 3 + 8 * (n / 512 % 8) + n / 1 % 8
      omega]
  have hro : aj_ro n 3 < 256 := by
    have h1 := aj_vi_lt n 1
    have h2 := aj_vi_lt n 4
    show 64 * 3 + 8 * aj_vi n 1 + aj_vi n 4 < 256
    omega
  rw [k0, k1, k2, k3] at hp
  refine ⟨vp_in_nI (by omega) (by omega), ?_⟩
  rw [nI_clamp (by omega)]
  by_cases z1 : R (64 + n / 64 % 64) = 0
  · refine br_t z1 ?_
    rw [if_pos z1, Nat.mul_zero, Nat.zero_mul, Nat.zero_mul] at hp
    exact hp
  refine br_f z1 ⟨vp_in_nI (by omega) (by omega), ?_⟩
  rw [nI_clamp (by omega)]
  by_cases z0 : R (n / 512) = 0
  · refine br_t z0 ?_
    rw [if_pos z0, Nat.zero_mul, Nat.zero_mul, Nat.zero_mul] at hp
    exact hp
  refine br_f z0 ⟨vp_in_nI (by omega) (by omega), ?_⟩
  rw [nI_clamp (by omega)]
  by_cases z2 : R (128 + n / 8 % 64) = 0
  · refine br_t z2 ?_
    rw [if_pos z2, Nat.mul_zero, Nat.zero_mul] at hp
    exact hp
  refine br_f z2 ?_
  refine aj_yrow 3 hn (by omega) ?_
  refine ⟨vp_in_nI hro (by omega), ?_⟩
  rw [nI_clamp (by omega)]
  by_cases z3 : R (aj_ro n 3) = 0
  · refine br_t z3 ?_
    rw [if_pos z3, Nat.mul_zero] at hp
    exact hp
  · refine br_f z3 ?_
    rw [if_neg z0, if_neg z1, if_neg z2, if_neg z3] at hp
    exact hp
theorem aj_A01 (h : Nat → Int32) (n : Nat) : aj_A h n = 0 ∨ aj_A h n = 1 := by
  have := aj_A_le h n
  omega
theorem aj_ycount {post : Int32 → Prop} {R C S : Nat → Int32} (hp : post (nI (aj_sm (aj_A R) 32768))) : wpY_count post (R, C, S) := by
  unfold wpY_count
  dsimp only
  refine aj_acc0 (fun n x1 x2 => wY_count_4 post R C S n x1 x2) (aj_A R) 32768 post ?_ ?_ 0 ?_
  · intro n a hk
    exact br_t (nI_le (a := 32768) (Nat.le_refl _) (by decide)) hk
  · intro n i a hi hw
    refine br_f (nI_ge (b := 32768) hi (by decide)) ?_
    refine aj_yans hi ?_
    rcases aj_A01 R i with e | e
    · rw [e, nI_0, Int32.add_zero] at hw
      rw [e]
      exact br_t rfl (nm_r (nI_1 i) hw)
    · rw [e] at hw
      rw [e]
      exact br_f (by decide) (nm_e (nm_r (nI_1 i) hw))
  · rw [Int32.zero_add]
    exact hp
theorem aj_yrank21 {post : Int32 → Prop} {R C S : Nat → Int32} (L : Nat) (hL : L ≤ 32768) (hp : post (nI (aj_sm (aj_A R) L))) : ∃ n, wY_rank_21 post (nI L) R C S n 0 0 := by
  refine aj_acc0 (fun n x1 x2 => wY_rank_21 post (nI L) R C S n x1 x2) (aj_A R) L post ?_ ?_ 0 ?_
  · intro n a hk
    exact br_t (nI_le (Nat.le_refl _) (by omega)) hk
  · intro n i a hi hw
    refine br_f (nI_ge hi (by omega)) ?_
    refine aj_yans (by omega) ?_
    rcases aj_A01 R i with e | e
    · rw [e, nI_0, Int32.add_zero] at hw
      rw [e]
      exact br_t rfl (nm_r (nI_1 i) hw)
    · rw [e] at hw
      rw [e]
      exact br_f (by decide) (nm_e (nm_r (nI_1 i) hw))
  · rw [Int32.zero_add]
    exact hp
theorem aj_ro_lt {n i : Nat} (hi : i < 4) : aj_ro n i < 256 := by
  have h1 := aj_vi_lt n (aj_f1 i)
  have h2 := aj_vi_lt n (aj_f2 i)
  unfold aj_ro
  omega
def aj_CW (R : Nat → Int32) (i c : Nat) : Nat := aj_sm (fun n => aj_A R n * aj_e (aj_ro n i) c) 32768
theorem aj_ycw {post : Int32 → Prop} {R C S : Nat → Int32} (i c : Nat) (hi : i < 4) (hc : c / 64 = i) (hp : post (nI (aj_CW R i c))) : wpY_countWith post (R, C, S) (nI c) := by
  have hc2 : c < 256 := by omega
  unfold wpY_countWith
  dsimp only
  refine aj_acc0 (fun n x1 x2 => wY_countWith_4 post (nI c) R C S n x1 x2) (fun n => aj_A R n * aj_e (aj_ro n i) c) 32768 post ?_ ?_ 0 ?_
  · intro n a hk
    exact br_t (nI_le (a := 32768) (Nat.le_refl _) (by decide)) hk
  · intro n j a hj hw
    refine br_f (nI_ge (b := 32768) hj (by decide)) ?_
    refine aj_yans hj ?_
    rcases aj_A01 R j with e | e
    · rw [e, Nat.zero_mul, nI_0, Int32.add_zero] at hw
      rw [e]
      exact br_t rfl (nm_r (nI_1 j) hw)
    · rw [e, Nat.one_mul] at hw
      rw [e]
      refine br_f (by decide) ⟨by decide, ?_⟩
      refine aj_yrow i hj hi ?_ (by rw [show (64 : Int32) = nI 64 from rfl, pk_div (by omega) (by decide) (by decide), hc])
      have hro := aj_ro_lt (n := j) hi
      refine pk_eq (aj_ro j i) c (fun he => ?_) (fun hne => ?_)
      · rw [aj_e_t he] at hw
        exact nm_e (nm_r (nI_1 j) hw)
      · rw [aj_e_f hne, nI_0, Int32.add_zero] at hw
        exact nm_r (nI_1 j) hw
  · rw [Int32.zero_add]
    exact hp
def aj_CV (R : Nat → Int32) (c v : Nat) : Nat := aj_sm (fun n => aj_A R n * aj_e (aj_vi n c) v) 32768
theorem aj_ycv {post : Int32 → Prop} {R C S : Nat → Int32} (c v : Nat) (hc : c < 5) (hv : v < 8) (hp : post (nI (aj_CV R c v))) : wpY_countValue post (R, C, S) (nI c) (nI v) := by
  unfold wpY_countValue
  dsimp only
  refine aj_acc0 (fun n x1 x2 => wY_countValue_5 post (nI c) (nI v) R C S n x1 x2) (fun n => aj_A R n * aj_e (aj_vi n c) v) 32768 post ?_ ?_ 0 ?_
  · intro n a hk
    exact br_t (nI_le (a := 32768) (Nat.le_refl _) (by decide)) hk
  · intro n j a hj hw
    refine br_f (nI_ge (b := 32768) hj (by decide)) ?_
    refine aj_yval c hj hc ?_
    have hro := aj_vi_lt j c
    refine pk_eq (aj_vi j c) v (fun he => ?_) (fun hne => ?_)
    · rw [aj_e_t he, Nat.mul_one] at hw
      refine aj_yans hj ?_
      rcases aj_A01 R j with e | e
      · rw [e, nI_0, Int32.add_zero] at hw
        rw [e]
        exact br_t rfl (nm_r (nI_1 j) hw)
      · rw [e] at hw
        rw [e]
        exact br_f (by decide) (nm_e (nm_r (nI_1 j) hw))
    · rw [aj_e_f hne, Nat.mul_zero, nI_0, Int32.add_zero] at hw
      exact nm_r (nI_1 j) hw
  · rw [Int32.zero_add]
    exact hp
theorem aj_ysum {post : Int32 → Prop} {R C S : Nat → Int32} (hp : post (nI (aj_sm (fun n => aj_A R n * (aj_vi n 3 + aj_vi n 4)) 32768))) : wpY_sum post (R, C, S) := by
  unfold wpY_sum
  dsimp only
  refine aj_acc0 (fun n x1 x2 => wY_sum_4 post R C S n x1 x2) (fun n => aj_A R n * (aj_vi n 3 + aj_vi n 4)) 32768 post ?_ ?_ 0 ?_
  · intro n a hk
    exact br_t (nI_le (a := 32768) (Nat.le_refl _) (by decide)) hk
  · intro n j a hj hw
    refine br_f (nI_ge (b := 32768) hj (by decide)) ?_
    refine aj_yans hj ?_
    rcases aj_A01 R j with e | e
    · rw [e, Nat.zero_mul, nI_0, Int32.add_zero] at hw
      rw [e]
      exact br_t rfl (nm_r (nI_1 j) hw)
    · rw [e, Nat.one_mul] at hw
      rw [e]
      refine br_f (by decide) ?_
      refine aj_yval 3 hj (by omega) ?_
      refine aj_yval 4 hj (by omega) ?_
      exact nm_r (by rw [Int32.add_assoc, nI_add]) (nm_r (nI_1 j) hw)
  · rw [Int32.zero_add]
    exact hp
