theorem aj_ne1 {v : Nat} (h : v < 2 ^ 31) : ¬ nI v = (-1 : Int32) := fun e => nI_pos h (by rw [e]; decide)
def aj_T (h : Nat → Int32) (i x y : Nat) : Nat := if h ((i * 8 + x) * 8 + y) = 0 then 0 else 1
theorem aj_T_le (h : Nat → Int32) (i x y : Nat) : aj_T h i x y ≤ 1 := by unfold aj_T; split <;> omega
theorem aj_until {post : Int32 → Prop} (o : Option Nat) (ho : aj_ok o) (hp : post (nI (aj_hi o))) : wpX_until post (aj_O o) := by
  cases o with
  | none => exact br_t rfl hp
  | some v =>
    have hv : v < 8 := ho
    refine br_f (aj_ne1 (by omega)) ?_
    show post (nI v + 1)
    rw [nI_1]
    exact hp
theorem aj_from {post : Int32 → Prop} (o : Option Nat) (ho : aj_ok o) (hp : post (nI (aj_lo o))) : wpX_from post (aj_O o) := by
  cases o with
  | none => exact br_t rfl hp
  | some v =>
    have hv : v < 8 := ho
    exact br_f (aj_ne1 (by omega)) hp
theorem aj_cellE (i a b : Nat) : (((nI i * 8) + nI a) * 8) + nI b = nI ((i * 8 + a) * 8 + b) := by
  rw [show (8 : Int32) = nI 8 from rfl, pk_mul, nI_add, pk_mul, nI_add]
theorem aj_cell {post : Int32 → Prop} (i a b : Nat) (hp : post (nI ((i * 8 + a) * 8 + b))) : wpX_cellOf post (nI i) (nI a) (nI b) := by
  unfold wpX_cellOf
  rw [aj_cellE]
  exact hp
def aj_FT (h : Nat → Int32) (i : Nat) (a b : Option Nat) : Nat := aj_sm (fun x => aj_mt a x * aj_sm (fun y => aj_mt b y * aj_T h i x y) 8) 8
theorem aj_hi8 {o : Option Nat} (h : aj_ok o) : aj_hi o ≤ 8 := by
  cases o with
  | none => exact Nat.le_refl _
  | some v => exact h
theorem aj_fit {post : Int32 → Prop} (h : Nat → Int32) (i : Nat) (a b : Option Nat) (hi : i < 4) (ha : aj_ok a) (hb : aj_ok b) (hp : post (nI (aj_FT h i a b))) {p0 p1 p2 : Int32} (e0 : p0 = nI i := by rfl) (e1 : p1 = aj_O a := by rfl) (e2 : p2 = aj_O b := by rfl) : wpX_fitting post h p0 p1 p2 := by
  subst e0 e1 e2
  have h8a := aj_hi8 ha
  have h8b := aj_hi8 hb
  unfold wpX_fitting
  refine aj_until a ha ?_
  refine aj_until b hb ?_
  refine aj_from a ha ?_
  refine aj_acc1 (fun n x4 x7 => wX_fitting_21 post (nI i) (aj_O b) (nI (aj_hi a)) (nI (aj_hi b)) h n x4 x7) (fun x => aj_sm (fun y => aj_mt b y * aj_T h i x y) 8) a ha post ?_ ?_ 0 ?_
  · intro n x hk
    exact br_t (nI_le (Nat.le_refl _) (by omega)) hk
  · intro n x acc hx8 hw hlt
    refine br_f (nI_ge hlt (by omega)) ?_
    refine aj_from b hb ?_
    refine aj_acc1 (fun m x4 x8 => wX_fitting_34 post (wX_fitting_21 post (nI i) (aj_O b) (nI (aj_hi a)) (nI (aj_hi b)) h n) (nI i) (aj_O b) (nI (aj_hi a)) (nI (aj_hi b)) (nI x) h m x4 x8) (fun y => aj_T h i x y) b hb (fun z => wX_fitting_21 post (nI i) (aj_O b) (nI (aj_hi a)) (nI (aj_hi b)) h n z (nI (x + 1))) ?_ ?_ acc hw
    · intro m z hk
      exact br_t (nI_le (Nat.le_refl _) (by omega)) (nm_r (nI_1 x) hk)
    · intro m y z hy8 hw2 hlt2
      refine br_f (nI_ge hlt2 (by omega)) ?_
      refine aj_cell i x y ?_
      refine ⟨vp_in_nI (by omega) (by omega), ?_⟩
      rw [nI_clamp (by omega)]
      by_cases hz : h ((i * 8 + x) * 8 + y) = 0
      · have eT : aj_T h i x y = 0 := if_pos hz
        refine br_t hz (nm_r (nI_1 y) ?_)
        rw [eT, nI_0, Int32.add_zero] at hw2
        exact hw2
      · have eT : aj_T h i x y = 1 := if_neg hz
        refine br_f hz (nm_e (nm_r (nI_1 y) ?_))
        rw [eT] at hw2
        exact hw2
  · rw [Int32.zero_add]
    exact hp
def aj_MV (h : Nat → Int32) (p q r s t : Option Nat) : Nat := aj_sm (fun y => aj_mt q y * aj_sm (fun z => aj_mt r z * (aj_FT h 0 p (some y) * aj_FT h 3 (some y) t * aj_FT h 1 (some y) (some z) * aj_FT h 2 (some z) s)) 8) 8
theorem aj_mat {post : Int32 → Prop} (h : Nat → Int32) (p q r s t : Option Nat) (hop : aj_ok p) (hoq : aj_ok q) (hor : aj_ok r) (hos : aj_ok s) (hot : aj_ok t) (hp : post (nI (aj_MV h p q r s t))) {p0 p1 p2 p3 p4 : Int32} (e0 : p0 = aj_O p := by rfl) (e1 : p1 = aj_O q := by rfl) (e2 : p2 = aj_O r := by rfl) (e3 : p3 = aj_O s := by rfl) (e4 : p4 = aj_O t := by rfl) : wpX_matching post h p0 p1 p2 p3 p4 := by
  subst e0 e1 e2 e3 e4
  have h8q := aj_hi8 hoq
  have h8r := aj_hi8 hor
  unfold wpX_matching
  refine aj_until q hoq ?_
  refine aj_until r hor ?_
  refine aj_from q hoq ?_
  refine aj_acc1 (fun n x6 x9 => wX_matching_21 post (aj_O p) (aj_O r) (aj_O s) (aj_O t) (nI (aj_hi q)) (nI (aj_hi r)) h n x6 x9) (fun y => aj_sm (fun z => aj_mt r z * (aj_FT h 0 p (some y) * aj_FT h 3 (some y) t * aj_FT h 1 (some y) (some z) * aj_FT h 2 (some z) s)) 8) q hoq post ?_ ?_ 0 ?_
  · intro n x hk
    exact br_t (nI_le (Nat.le_refl _) (by omega)) hk
  · intro n y acc hy8 hw hlt
    refine br_f (nI_ge hlt (by omega)) ?_
    refine aj_fit h 0 p (some y) (by omega) hop hy8 ?_
    refine aj_fit h 3 (some y) t (by omega) hy8 hot ?_
    refine nm_r (pk_mul _ _) ?_
    refine aj_from r hor ?_
    refine aj_acc1 (fun m x6 x11 => wX_matching_54 post (wX_matching_21 post (aj_O p) (aj_O r) (aj_O s) (aj_O t) (nI (aj_hi q)) (nI (aj_hi r)) h n) (aj_O p) (aj_O r) (aj_O s) (aj_O t) (nI (aj_hi q)) (nI (aj_hi r)) (nI y) (nI (aj_FT h 0 p (some y) * aj_FT h 3 (some y) t)) h m x6 x11) (fun z => aj_FT h 0 p (some y) * aj_FT h 3 (some y) t * aj_FT h 1 (some y) (some z) * aj_FT h 2 (some z) s) r hor (fun z => wX_matching_21 post (aj_O p) (aj_O r) (aj_O s) (aj_O t) (nI (aj_hi q)) (nI (aj_hi r)) h n z (nI (y + 1))) ?_ ?_ acc hw
    · intro m z hk
      exact br_t (nI_le (Nat.le_refl _) (by omega)) (nm_r (nI_1 y) hk)
    · intro m z acc2 hz8 hw2 hlt2
      refine br_f (nI_ge hlt2 (by omega)) ?_
      refine aj_fit h 1 (some y) (some z) (by omega) hy8 hz8 ?_
      refine aj_fit h 2 (some z) s (by omega) hz8 hos ?_
      refine nm_r (by rw [pk_mul, pk_mul]) (nm_r (nI_1 z) hw2)
  · rw [Int32.zero_add]
    exact hp
theorem aj_digE {e j : Nat} (he : e < 32768) (hj : j < 5) : ((nI e) >>> ((3 * nI j) &&& 31)) &&& 7 = nI (e / 8 ^ j % 8) := by
  have hj' : j = 0 ∨ j = 1 ∨ j = 2 ∨ j = 3 ∨ j = 4 := by omega
  have key : ∀ (s : Int32) (k : Nat), (s.toBitVec.smod 32).toNat = k → (nI e >>> s) &&& 7 = nI (e / 2 ^ k % 8) := by
    intro s k hs
    rw [pk_shrN (by omega) s k hs, pk_andN (Nat.lt_of_le_of_lt (Nat.div_le_self _ _) (by omega)) 3 (by decide)]
  rcases hj' with rfl | rfl | rfl | rfl | rfl
  · exact key _ 0 (by decide)
  · exact key _ 3 (by decide)
  · exact key _ 6 (by decide)
  · exact key _ 9 (by decide)
  · exact key _ 12 (by decide)
theorem aj_dig {post : Int32 → Prop} {e : Nat} (j : Nat) (he : e < 32768) (hj : j < 5) (hp : post (nI (e / 8 ^ j % 8))) {p1 : Int32} (e1 : p1 = nI j := by rfl) : wpX_digit post (nI e) p1 := by
  subst e1
  unfold wpX_digit
  rw [aj_digE he hj]
  exact hp
def aj_sel (c j e : Nat) : Option Nat := if j ≤ c then some (e / 8 ^ j % 8) else none
theorem aj_sel_ok (c j e : Nat) : aj_ok (aj_sel c j e) := by
  unfold aj_sel
  split
  · exact Nat.mod_lt _ (by decide)
  · exact True.intro
theorem aj_pick (P : Int32 → Prop) (c j e : Nat) (he : e < 32768) (hc : c < 5) (hj : j < 5) (hP : P (aj_O (aj_sel c j e))) {x y : Int32} (ex : x = nI (c + 1) := by rfl) (ey : y = nI j := by rfl) : (x ≤ y → P (-1)) ∧ (¬ x ≤ y → wpX_digit P (nI e) y) := by
  refine pk_le (c + 1) j (fun hle => ?_) (fun hlt => ?_) ex ey
  · rw [show aj_sel c j e = none from if_neg (by omega)] at hP
    exact hP
  · rw [show aj_sel c j e = some (e / 8 ^ j % 8) from if_pos (by omega)] at hP
    exact aj_dig j he hj hP ey
def aj_AV (h : Nat → Int32) (c e : Nat) : Nat := aj_MV h (aj_sel c 0 e) (aj_sel c 1 e) (aj_sel c 2 e) (aj_sel c 3 e) (aj_sel c 4 e)
theorem aj_agr {post : Int32 → Prop} (h : Nat → Int32) (c e : Nat) (he : e < 32768) (hc : c < 5) (hp : post (nI (aj_AV h c e))) {p1 : Int32} (e1 : p1 = nI (c + 1) := by rfl) : wpX_agreeing post h (nI e) p1 := by
  subst e1
  unfold wpX_agreeing
  refine aj_dig 0 he (by omega) ?_
  refine aj_pick (fun r => wX_agreeing_20 post (nI e) (nI (c + 1)) (nI (e / 8 ^ 0 % 8)) r h) c 1 e he hc (by omega) ?_
  refine aj_pick (fun r => wX_agreeing_36 post (nI e) (nI (c + 1)) (nI (e / 8 ^ 0 % 8)) (aj_O (aj_sel c 1 e)) r h) c 2 e he hc (by omega) ?_
  refine aj_pick (fun r => wX_agreeing_52 post (nI e) (nI (c + 1)) (nI (e / 8 ^ 0 % 8)) (aj_O (aj_sel c 1 e)) (aj_O (aj_sel c 2 e)) r h) c 3 e he hc (by omega) ?_
  refine aj_pick (fun r => wX_agreeing_68 post (nI (e / 8 ^ 0 % 8)) (aj_O (aj_sel c 1 e)) (aj_O (aj_sel c 2 e)) (aj_O (aj_sel c 3 e)) r h) c 4 e he hc (by omega) ?_
  exact aj_mat h (aj_sel c 0 e) (aj_sel c 1 e) (aj_sel c 2 e) (aj_sel c 3 e) (aj_sel c 4 e) (aj_sel_ok _ _ _) (aj_sel_ok _ _ _) (aj_sel_ok _ _ _) (aj_sel_ok _ _ _) (aj_sel_ok _ _ _) hp (by rw [show aj_sel c 0 e = some (e / 8 ^ 0 % 8) from if_pos (by omega)]; rfl)
