section
theorem pk_us {f : Nat → Int32} {k : Nat} {x : Int32} : upd f k x k = x := if_pos rfl
theorem pk_un {f : Nat → Int32} {k j : Nat} {x : Int32} (h : j ≠ k) : upd f k x j = f j := if_neg h
theorem pk_sub {a b : Nat} (h : b ≤ a) : nI a - nI b = nI (a - b) := by
  obtain ⟨c, rfl⟩ : ∃ c, a = c + b := ⟨a - b, by omega⟩
  rw [← nI_add, Int32.add_sub_cancel, Nat.add_sub_cancel]
theorem pk_m1 (n : Nat) : nI (n + 1) + (-1) = nI n := by
  rw [← nI_1, Int32.add_assoc, show (1 : Int32) + (-1) = 0 from rfl, Int32.add_zero]
theorem pk_mul (a b : Nat) : nI a * nI b = nI (a * b) := (Int32.ofNat_mul a b).symm
theorem pk_div {a d : Nat} (ha : a < 2 ^ 31) (h0 : 0 < d) (hd : d < 2 ^ 31) : nI a / nI d = nI (a / d) := by
  apply Int32.toInt_inj.mp
  rw [lg_idiv_nonneg (by rw [nI_toInt ha]; omega) (by rw [nI_toInt hd]; omega), nI_toInt ha, nI_toInt hd, nI_toInt (Nat.lt_of_le_of_lt (Nat.div_le_self a d) ha)]
  first | rfl | exact (Int.natCast_ediv _ _).symm
theorem pk_ix (x : Int32) {n : Nat} (hn : n < 2 ^ 31) : x < 0 ∨ nI n ≤ x ∨ ∃ j : Nat, j < n ∧ x = nI j := by
  by_cases h : x < 0
  · exact Or.inl h
  · obtain ⟨j, hj, rfl⟩ := nI_of h
    by_cases h2 : j < n
    · exact Or.inr (Or.inr ⟨j, h2, rfl⟩)
    · exact Or.inr (Or.inl (nI_le (by omega) hj))
theorem pk_le {x y : Int32} {A B : Prop} (a b : Nat) (f : a ≤ b → A) (g : b < a → B) (hx : x = nI a := by rfl) (hy : y = nI b := by rfl) (ha : a < 2 ^ 31 := by omega) (hb : b < 2 ^ 31 := by omega) : (x ≤ y → A) ∧ (¬ x ≤ y → B) := by
  subst hx hy
  rw [nI_leI ha hb]
  exact ⟨f, fun z => g (by omega)⟩
theorem pk_lt {x y : Int32} {A B : Prop} (a b : Nat) (f : a < b → A) (g : b ≤ a → B) (hx : x = nI a := by rfl) (hy : y = nI b := by rfl) (ha : a < 2 ^ 31 := by omega) (hb : b < 2 ^ 31 := by omega) : (x < y → A) ∧ (¬ x < y → B) := by
  subst hx hy
  rw [nI_ltI ha hb]
  exact ⟨f, fun z => g (by omega)⟩
theorem pk_eq {x y : Int32} {A B : Prop} (a b : Nat) (f : a = b → A) (g : a ≠ b → B) (hx : x = nI a := by rfl) (hy : y = nI b := by rfl) (ha : a < 2 ^ 31 := by omega) (hb : b < 2 ^ 31 := by omega) : (x = y → A) ∧ (¬ x = y → B) := by
  subst hx hy
  rw [nI_eq ha hb]
  exact ⟨f, g⟩
theorem pk_in {x : Int32} (n N : Nat) (h : n < N) (hx : x = nI n := by rfl) (hN : N < 2 ^ 31 := by omega) : vp_in x N := by
  subst hx
  exact vp_in_nI h hN
theorem pk_cl {x : Int32} (n : Nat) (hx : x = nI n := by rfl) (h : n < 2 ^ 31 := by omega) : x.toNatClampNeg = n := by
  subst hx
  exact nI_clamp h
theorem pk_tn {n : Nat} (h : n < 2 ^ 32) : (nI n).toBitVec.toNat = n := Nat.mod_eq_of_lt h
theorem pk_and (x : Int32) {m : Int32} (k : Nat) (hm : m.toBitVec.toNat = 2 ^ k - 1) : x &&& m = nI (x.toBitVec.toNat % 2 ^ k) := by
  apply Int32.toBitVec_inj.mp
  apply BitVec.eq_of_toNat_eq
  rw [Int32.toBitVec_and, BitVec.toNat_and, hm, Nat.and_two_pow_sub_one_eq_mod]
  show _ = (BitVec.ofNat 32 _).toNat
  rw [BitVec.toNat_ofNat]
  exact (Nat.mod_eq_of_lt (Nat.lt_of_le_of_lt (Nat.mod_le _ _) x.toBitVec.isLt)).symm
theorem pk_andN {n : Nat} (h : n < 2 ^ 32) {m : Int32} (k : Nat) (hm : m.toBitVec.toNat = 2 ^ k - 1) : nI n &&& m = nI (n % 2 ^ k) := by
  rw [pk_and _ k hm, pk_tn h]
theorem pk_andE (x : Int32) {m : Int32} (k : Nat) (hm : m.toBitVec.toNat = 2 ^ k - 1) : ∃ j : Nat, j < 2 ^ k ∧ x &&& m = nI j := ⟨_, Nat.mod_lt _ (Nat.two_pow_pos k), pk_and x k hm⟩
theorem pk_shl (a s : Int32) (k : Nat) (hs : (s.toBitVec.smod 32).toNat = k) : (a <<< s).toBitVec.toNat = a.toBitVec.toNat * 2 ^ k % 2 ^ 32 := by
  show (a.toBitVec <<< (s.toBitVec.smod 32).toNat).toNat = _
  rw [hs, BitVec.toNat_shiftLeft, Nat.shiftLeft_eq]
theorem pk_shlN {n : Nat} (s : Int32) (k : Nat) (hs : (s.toBitVec.smod 32).toNat = k) (h : n * 2 ^ k < 2 ^ 32) : nI n <<< s = nI (n * 2 ^ k) := by
  apply Int32.toBitVec_inj.mp
  apply BitVec.eq_of_toNat_eq
  have hn : n < 2 ^ 32 := Nat.lt_of_le_of_lt (Nat.le_mul_of_pos_right n (Nat.two_pow_pos k)) h
  rw [pk_shl _ _ k hs, pk_tn hn, pk_tn h, Nat.mod_eq_of_lt h]
theorem pk_shr (a s : Int32) (k : Nat) (hs : (s.toBitVec.smod 32).toNat = k) : (a >>> s).toInt = a.toInt >>> k := by
  show (a.toBitVec.sshiftRight (s.toBitVec.smod 32).toNat).toInt = _
  rw [hs, BitVec.toInt_sshiftRight]
  rfl
theorem pk_shrN {n : Nat} (h : n < 2 ^ 31) (s : Int32) (k : Nat) (hs : (s.toBitVec.smod 32).toNat = k) : nI n >>> s = nI (n / 2 ^ k) := by
  apply Int32.toInt_inj.mp
  have h2 : n / 2 ^ k ≤ n := Nat.div_le_self _ _
  rw [pk_shr _ _ k hs, nI_toInt h, nI_toInt (by omega), Int.shiftRight_eq_div_pow]
  rfl
end
section
def aj_sm (f : Nat → Nat) : Nat → Nat
  | 0 => 0
  | n + 1 => aj_sm f n + f n
theorem aj_sm_0 (f : Nat → Nat) : aj_sm f 0 = 0 := rfl
theorem aj_sm_s (f : Nat → Nat) (n : Nat) : aj_sm f (n + 1) = aj_sm f n + f n := rfl
theorem aj_cg {f g : Nat → Nat} : ∀ {n : Nat}, (∀ i, i < n → f i = g i) → aj_sm f n = aj_sm g n := by
  intro n
  induction n with
  | zero => intro _; rfl
  | succ n ih =>
    intro h
    rw [aj_sm_s, aj_sm_s, ih (fun i hi => h i (by omega)), h n (by omega)]
theorem aj_sm_z {f : Nat → Nat} {n : Nat} (h : ∀ i, i < n → f i = 0) : aj_sm f n = 0 := by
  induction n with
  | zero => rfl
  | succ n ih => rw [aj_sm_s, ih (fun i hi => h i (by omega)), h n (by omega)]
theorem aj_sm_add (f g : Nat → Nat) (n : Nat) : aj_sm (fun i => f i + g i) n = aj_sm f n + aj_sm g n := by
  induction n with
  | zero => rfl
  | succ n ih => rw [aj_sm_s, aj_sm_s, aj_sm_s, ih]; omega
theorem aj_sm_mul (c : Nat) (f : Nat → Nat) (n : Nat) : aj_sm (fun i => c * f i) n = c * aj_sm f n := by
  induction n with
  | zero => rfl
  | succ n ih => rw [aj_sm_s, aj_sm_s, ih, Nat.mul_add]
theorem aj_sm_mulr (c : Nat) (f : Nat → Nat) (n : Nat) : aj_sm (fun i => f i * c) n = aj_sm f n * c := by
  induction n with
  | zero => rw [aj_sm_0, aj_sm_0, Nat.zero_mul]
  | succ n ih => rw [aj_sm_s, aj_sm_s, ih, Nat.add_mul]
theorem aj_sm_swap (f : Nat → Nat → Nat) (m n : Nat) : aj_sm (fun i => aj_sm (fun j => f i j) n) m = aj_sm (fun j => aj_sm (fun i => f i j) m) n := by
  induction m with
  | zero => rw [aj_sm_0]; exact (aj_sm_z (fun _ _ => rfl)).symm
  | succ m ih =>
    rw [aj_sm_s, ih, ← aj_sm_add]
    rfl
theorem aj_sm_split (f : Nat → Nat) (a b : Nat) : aj_sm f (a + b) = aj_sm f a + aj_sm (fun i => f (a + i)) b := by
  induction b with
  | zero => rfl
  | succ b ih => rw [← Nat.add_assoc, aj_sm_s, ih, aj_sm_s, Nat.add_assoc]
theorem aj_sm_blk (f : Nat → Nat) (w a : Nat) : aj_sm f (a * w) = aj_sm (fun m => aj_sm (fun d => f (m * w + d)) w) a := by
  induction a with
  | zero => rw [Nat.zero_mul]; rfl
  | succ a ih => rw [Nat.succ_mul, aj_sm_split, ih, aj_sm_s]
theorem aj_sm_one {f : Nat → Nat} {v n : Nat} (hv : v < n) (h : ∀ i, i < n → i ≠ v → f i = 0) : aj_sm f n = f v := by
  induction n with
  | zero => omega
  | succ n ih =>
    rw [aj_sm_s]
    by_cases e : v = n
    · subst e
      rw [aj_sm_z (fun i hi => h i (by omega) (by omega)), Nat.zero_add]
    · rw [ih (by omega) (fun i hi => h i (by omega)), h n (by omega) (by omega), Nat.add_zero]
theorem aj_sm_le {f g : Nat → Nat} {n : Nat} (h : ∀ i, i < n → f i ≤ g i) : aj_sm f n ≤ aj_sm g n := by
  induction n with
  | zero => exact Nat.le_refl _
  | succ n ih =>
    rw [aj_sm_s, aj_sm_s]
    have := ih (fun i hi => h i (by omega))
    have := h n (by omega)
    omega
theorem aj_sm_bd {f : Nat → Nat} {n : Nat} (h : ∀ i, i < n → f i ≤ 1) : aj_sm f n ≤ n := by
  induction n with
  | zero => exact Nat.le_refl _
  | succ n ih =>
    rw [aj_sm_s]
    have := ih (fun i hi => h i (by omega))
    have := h n (by omega)
    omega
theorem aj_sm_mono {f : Nat → Nat} {a b : Nat} (h : a ≤ b) : aj_sm f a ≤ aj_sm f b := by
  obtain ⟨c, rfl⟩ : ∃ c, b = a + c := ⟨b - a, by omega⟩
  rw [aj_sm_split]
  omega
theorem aj_sm_pos {f : Nat → Nat} {n : Nat} : 0 < aj_sm f n ↔ ∃ i, i < n ∧ 0 < f i := by
  induction n with
  | zero => exact ⟨fun h => absurd h (by rw [aj_sm_0]; omega), fun ⟨i, hi, _⟩ => by omega⟩
  | succ n ih =>
    rw [aj_sm_s]
    constructor
    · intro h
      by_cases z : 0 < f n
      · exact ⟨n, by omega, z⟩
      · obtain ⟨i, hi, hp⟩ := ih.mp (by omega)
        exact ⟨i, by omega, hp⟩
    · intro ⟨i, hi, hp⟩
      by_cases e : i = n
      · subst e; omega
      · have := ih.mpr ⟨i, by omega, hp⟩
        omega
def aj_e (a b : Nat) : Nat := if a = b then 1 else 0
theorem aj_e_t {a b : Nat} (h : a = b) : aj_e a b = 1 := if_pos h
theorem aj_e_f {a b : Nat} (h : a ≠ b) : aj_e a b = 0 := if_neg h
theorem aj_e_le (a b : Nat) : aj_e a b ≤ 1 := by unfold aj_e; split <;> omega
def aj_ps (n : Nat) : Nat := if n = 0 then 0 else 1
theorem aj_ps_0 : aj_ps 0 = 0 := rfl
theorem aj_ps_p {n : Nat} (h : 0 < n) : aj_ps n = 1 := if_neg (by omega)
theorem aj_ps_le (n : Nat) : aj_ps n ≤ 1 := by unfold aj_ps; split <;> omega
def aj_mt (o : Option Nat) (x : Nat) : Nat := match o with
  | none => 1
  | some v => aj_e x v
theorem aj_mt_le (o : Option Nat) (x : Nat) : aj_mt o x ≤ 1 := by
  cases o with
  | none => exact Nat.le_refl _
  | some v => exact aj_e_le _ _
def aj_lo (o : Option Nat) : Nat := match o with
  | none => 0
  | some v => v
def aj_hi (o : Option Nat) : Nat := match o with
  | none => 8
  | some v => v + 1
def aj_O (o : Option Nat) : Int32 := match o with
  | none => -1
  | some v => nI v
def aj_ok (o : Option Nat) : Prop := match o with
  | none => True
  | some v => v < 8
theorem aj_sm_mt (o : Option Nat) (h : aj_ok o) (f : Nat → Nat) : aj_sm (fun i => f (aj_lo o + i)) (aj_hi o - aj_lo o) = aj_sm (fun x => aj_mt o x * f x) 8 := by
  cases o with
  | none =>
    show aj_sm (fun i => f (0 + i)) 8 = _
    exact aj_cg (fun i _ => by rw [Nat.zero_add]; exact (Nat.one_mul _).symm)
  | some v =>
    have hv : v < 8 := h
    rw [aj_sm_one (v := v) hv (fun i _ hn => by show aj_e i v * f i = 0; rw [aj_e_f hn, Nat.zero_mul])]
    show aj_sm (fun i => f (v + i)) (v + 1 - v) = aj_e v v * f v
    rw [aj_e_t rfl, Nat.add_sub_cancel_left, Nat.one_mul]
    exact Nat.zero_add _
/-- an adding loop -/
theorem aj_acc (W : Nat → Int32 → Int32 → Prop) (f : Nat → Nat) (e : Nat) (K : Int32 → Prop)
    (hx : ∀ n a, K a → W (n + 1) a (nI e))
    (hs : ∀ n i a, i < e → W n (a + nI (f i)) (nI (i + 1)) → W (n + 1) a (nI i)) :
    ∀ d lo n a, lo + d = e → d < n → K (a + nI (aj_sm (fun i => f (lo + i)) d)) → W n a (nI lo) := by
  intro d
  induction d with
  | zero =>
    intro lo n a hl hn hK
    obtain ⟨m, rfl⟩ : ∃ m, n = m + 1 := ⟨n - 1, by omega⟩
    have : lo = e := by omega
    subst this
    rw [aj_sm_0, nI_0, Int32.add_zero] at hK
    exact hx m a hK
  | succ d ih =>
    intro lo n a hl hn hK
    obtain ⟨m, rfl⟩ : ∃ m, n = m + 1 := ⟨n - 1, by omega⟩
    refine hs m lo a (by omega) (ih (lo + 1) m _ (by omega) (by omega) ?_)
    have e1 : aj_sm (fun i => f (lo + i)) (d + 1) = f lo + aj_sm (fun i => f (lo + 1 + i)) d := by
      rw [Nat.add_comm d 1, aj_sm_split]
      show (0 + f (lo + 0)) + aj_sm (fun i => f (lo + (1 + i))) d = _
      rw [Nat.zero_add, Nat.add_zero]
      exact congrArg _ (aj_cg (fun i _ => by rw [Nat.add_assoc]))
    rw [e1, ← nI_add, ← Int32.add_assoc] at hK
    exact hK
theorem aj_acc0 (W : Nat → Int32 → Int32 → Prop) (f : Nat → Nat) (e : Nat) (K : Int32 → Prop)
    (hx : ∀ n a, K a → W (n + 1) a (nI e))
    (hs : ∀ n i a, i < e → W n (a + nI (f i)) (nI (i + 1)) → W (n + 1) a (nI i))
    (a : Int32) (hK : K (a + nI (aj_sm f e))) : ∃ n, W n a (nI 0) := by
  refine ⟨e + 1, aj_acc W f e K hx hs e 0 (e + 1) a (by omega) (by omega) ?_⟩
  rw [show aj_sm (fun i => f (0 + i)) e = aj_sm f e from aj_cg (fun i _ => by rw [Nat.zero_add])]
  exact hK
theorem aj_acc1 (W : Nat → Int32 → Int32 → Prop) (f : Nat → Nat) (o : Option Nat) (ho : aj_ok o) (K : Int32 → Prop)
    (hx : ∀ n a, K a → W (n + 1) a (nI (aj_hi o)))
    (hs : ∀ n i a, i < 8 → W n (a + nI (f i)) (nI (i + 1)) → i < aj_hi o → W (n + 1) a (nI i))
    (a : Int32) (hK : K (a + nI (aj_sm (fun x => aj_mt o x * f x) 8))) : ∃ n, W n a (nI (aj_lo o)) := by
  have h8 : aj_hi o ≤ 8 := by
    cases o with
    | none => exact Nat.le_refl _
    | some v => exact ho
  have hl : aj_lo o ≤ aj_hi o := by
    cases o with
    | none => exact Nat.zero_le _
    | some v => exact Nat.le_succ _
  refine ⟨aj_hi o - aj_lo o + 1, aj_acc W f (aj_hi o) K hx (fun n i a hi w => hs n i a (by omega) w hi) (aj_hi o - aj_lo o) (aj_lo o) _ a (by omega) (by omega) ?_⟩
  rw [aj_sm_mt o ho]
  exact hK
end
section
theorem aj_ne1 {v : Nat} (h : v < 2 ^ 31) : ¬ nI v = (-1 : Int32) := fun e => nI_pos h (by rw [e]; decide)
def aj_T (h : Nat → Int32) (i x y : Nat) : Nat := if h ((i * 8 + x) * 8 + y) = 0 then 0 else 1
theorem aj_T_le (h : Nat → Int32) (i x y : Nat) : aj_T h i x y ≤ 1 := by unfold aj_T; split <;> omega
theorem aj_until {post : Int32 → Prop} (o : Option Nat) (ho : aj_ok o) (hp : post (nI (aj_hi o))) : wpX_until post (aj_O o) := by
  cases o with
  | none => exact br_t rfl hp
  | some v =>
    have hv : v < 8 := ho
    refine br_f (aj_ne1 (by omega)) ?_
    show post (nI v + 1)
    rw [nI_1]
    exact hp
theorem aj_from {post : Int32 → Prop} (o : Option Nat) (ho : aj_ok o) (hp : post (nI (aj_lo o))) : wpX_from post (aj_O o) := by
  cases o with
  | none => exact br_t rfl hp
  | some v =>
    have hv : v < 8 := ho
    exact br_f (aj_ne1 (by omega)) hp
theorem aj_cellE (i a b : Nat) : (((nI i * 8) + nI a) * 8) + nI b = nI ((i * 8 + a) * 8 + b) := by
  rw [show (8 : Int32) = nI 8 from rfl, pk_mul, nI_add, pk_mul, nI_add]
theorem aj_cell {post : Int32 → Prop} (i a b : Nat) (hp : post (nI ((i * 8 + a) * 8 + b))) : wpX_cellOf post (nI i) (nI a) (nI b) := by
  unfold wpX_cellOf
  rw [aj_cellE]
  exact hp
def aj_FT (h : Nat → Int32) (i : Nat) (a b : Option Nat) : Nat := aj_sm (fun x => aj_mt a x * aj_sm (fun y => aj_mt b y * aj_T h i x y) 8) 8
theorem aj_hi8 {o : Option Nat} (h : aj_ok o) : aj_hi o ≤ 8 := by
  cases o with
  | none => exact Nat.le_refl _
  | some v => exact h
theorem aj_fit {post : Int32 → Prop} (h : Nat → Int32) (i : Nat) (a b : Option Nat) (hi : i < 4) (ha : aj_ok a) (hb : aj_ok b) (hp : post (nI (aj_FT h i a b))) {p0 p1 p2 : Int32} (e0 : p0 = nI i := by rfl) (e1 : p1 = aj_O a := by rfl) (e2 : p2 = aj_O b := by rfl) : wpX_fitting post h p0 p1 p2 := by
  subst e0 e1 e2
  have h8a := aj_hi8 ha
  have h8b := aj_hi8 hb
  unfold wpX_fitting
  refine aj_until a ha ?_
  refine aj_until b hb ?_
  refine aj_from a ha ?_
  refine aj_acc1 (fun n x4 x7 => wX_fitting_21 post (nI i) (aj_O b) (nI (aj_hi a)) (nI (aj_hi b)) h n x4 x7) (fun x => aj_sm (fun y => aj_mt b y * aj_T h i x y) 8) a ha post ?_ ?_ 0 ?_
  · intro n x hk
    exact br_t (nI_le (Nat.le_refl _) (by omega)) hk
  · intro n x acc hx8 hw hlt
    refine br_f (nI_ge hlt (by omega)) ?_
    refine aj_from b hb ?_
    refine aj_acc1 (fun m x4 x8 => wX_fitting_34 post (wX_fitting_21 post (nI i) (aj_O b) (nI (aj_hi a)) (nI (aj_hi b)) h n) (nI i) (aj_O b) (nI (aj_hi a)) (nI (aj_hi b)) (nI x) h m x4 x8) (fun y => aj_T h i x y) b hb (fun z => wX_fitting_21 post (nI i) (aj_O b) (nI (aj_hi a)) (nI (aj_hi b)) h n z (nI (x + 1))) ?_ ?_ acc hw
    · intro m z hk
      exact br_t (nI_le (Nat.le_refl _) (by omega)) (nm_r (nI_1 x) hk)
    · intro m y z hy8 hw2 hlt2
      refine br_f (nI_ge hlt2 (by omega)) ?_
      refine aj_cell i x y ?_
      refine ⟨vp_in_nI (by omega) (by omega), ?_⟩
      rw [nI_clamp (by omega)]
      by_cases hz : h ((i * 8 + x) * 8 + y) = 0
      · have eT : aj_T h i x y = 0 := if_pos hz
        refine br_t hz (nm_r (nI_1 y) ?_)
        rw [eT, nI_0, Int32.add_zero] at hw2
        exact hw2
      · have eT : aj_T h i x y = 1 := if_neg hz
        refine br_f hz (nm_e (nm_r (nI_1 y) ?_))
        rw [eT] at hw2
        exact hw2
  · rw [Int32.zero_add]
    exact hp
def aj_MV (h : Nat → Int32) (p q r s t : Option Nat) : Nat := aj_sm (fun y => aj_mt q y * aj_sm (fun z => aj_mt r z * (aj_FT h 0 p (some y) * aj_FT h 3 (some y) t * aj_FT h 1 (some y) (some z) * aj_FT h 2 (some z) s)) 8) 8
theorem aj_mat {post : Int32 → Prop} (h : Nat → Int32) (p q r s t : Option Nat) (hop : aj_ok p) (hoq : aj_ok q) (hor : aj_ok r) (hos : aj_ok s) (hot : aj_ok t) (hp : post (nI (aj_MV h p q r s t))) {p0 p1 p2 p3 p4 : Int32} (e0 : p0 = aj_O p := by rfl) (e1 : p1 = aj_O q := by rfl) (e2 : p2 = aj_O r := by rfl) (e3 : p3 = aj_O s := by rfl) (e4 : p4 = aj_O t := by rfl) : wpX_matching post h p0 p1 p2 p3 p4 := by
  subst e0 e1 e2 e3 e4
  have h8q := aj_hi8 hoq
  have h8r := aj_hi8 hor
  unfold wpX_matching
  refine aj_until q hoq ?_
  refine aj_until r hor ?_
  refine aj_from q hoq ?_
  refine aj_acc1 (fun n x6 x9 => wX_matching_21 post (aj_O p) (aj_O r) (aj_O s) (aj_O t) (nI (aj_hi q)) (nI (aj_hi r)) h n x6 x9) (fun y => aj_sm (fun z => aj_mt r z * (aj_FT h 0 p (some y) * aj_FT h 3 (some y) t * aj_FT h 1 (some y) (some z) * aj_FT h 2 (some z) s)) 8) q hoq post ?_ ?_ 0 ?_
  · intro n x hk
    exact br_t (nI_le (Nat.le_refl _) (by omega)) hk
  · intro n y acc hy8 hw hlt
    refine br_f (nI_ge hlt (by omega)) ?_
    refine aj_fit h 0 p (some y) (by omega) hop hy8 ?_
    refine aj_fit h 3 (some y) t (by omega) hy8 hot ?_
    refine nm_r (pk_mul _ _) ?_
    refine aj_from r hor ?_
    refine aj_acc1 (fun m x6 x11 => wX_matching_54 post (wX_matching_21 post (aj_O p) (aj_O r) (aj_O s) (aj_O t) (nI (aj_hi q)) (nI (aj_hi r)) h n) (aj_O p) (aj_O r) (aj_O s) (aj_O t) (nI (aj_hi q)) (nI (aj_hi r)) (nI y) (nI (aj_FT h 0 p (some y) * aj_FT h 3 (some y) t)) h m x6 x11) (fun z => aj_FT h 0 p (some y) * aj_FT h 3 (some y) t * aj_FT h 1 (some y) (some z) * aj_FT h 2 (some z) s) r hor (fun z => wX_matching_21 post (aj_O p) (aj_O r) (aj_O s) (aj_O t) (nI (aj_hi q)) (nI (aj_hi r)) h n z (nI (y + 1))) ?_ ?_ acc hw
    · intro m z hk
      exact br_t (nI_le (Nat.le_refl _) (by omega)) (nm_r (nI_1 y) hk)
    · intro m z acc2 hz8 hw2 hlt2
      refine br_f (nI_ge hlt2 (by omega)) ?_
      refine aj_fit h 1 (some y) (some z) (by omega) hy8 hz8 ?_
      refine aj_fit h 2 (some z) s (by omega) hz8 hos ?_
      refine nm_r (by rw [pk_mul, pk_mul]) (nm_r (nI_1 z) hw2)
  · rw [Int32.zero_add]
    exact hp
theorem aj_digE {e j : Nat} (he : e < 32768) (hj : j < 5) : ((nI e) >>> ((3 * nI j) &&& 31)) &&& 7 = nI (e / 8 ^ j % 8) := by
  have hj' : j = 0 ∨ j = 1 ∨ j = 2 ∨ j = 3 ∨ j = 4 := by omega
  have key : ∀ (s : Int32) (k : Nat), (s.toBitVec.smod 32).toNat = k → (nI e >>> s) &&& 7 = nI (e / 2 ^ k % 8) := by
    intro s k hs
    rw [pk_shrN (by omega) s k hs, pk_andN (Nat.lt_of_le_of_lt (Nat.div_le_self _ _) (by omega)) 3 (by decide)]
  rcases hj' with rfl | rfl | rfl | rfl | rfl
  · exact key _ 0 (by decide)
  · exact key _ 3 (by decide)
  · exact key _ 6 (by decide)
  · exact key _ 9 (by decide)
  · exact key _ 12 (by decide)
theorem aj_dig {post : Int32 → Prop} {e : Nat} (j : Nat) (he : e < 32768) (hj : j < 5) (hp : post (nI (e / 8 ^ j % 8))) {p1 : Int32} (e1 : p1 = nI j := by rfl) : wpX_digit post (nI e) p1 := by
  subst e1
  unfold wpX_digit
  rw [aj_digE he hj]
  exact hp
def aj_sel (c j e : Nat) : Option Nat := if j ≤ c then some (e / 8 ^ j % 8) else none
theorem aj_sel_ok (c j e : Nat) : aj_ok (aj_sel c j e) := by
  unfold aj_sel
  split
  · exact Nat.mod_lt _ (by decide)
  · exact True.intro
theorem aj_pick (P : Int32 → Prop) (c j e : Nat) (he : e < 32768) (hc : c < 5) (hj : j < 5) (hP : P (aj_O (aj_sel c j e))) {x y : Int32} (ex : x = nI (c + 1) := by rfl) (ey : y = nI j := by rfl) : (x ≤ y → P (-1)) ∧ (¬ x ≤ y → wpX_digit P (nI e) y) := by
  refine pk_le (c + 1) j (fun hle => ?_) (fun hlt => ?_) ex ey
  · rw [show aj_sel c j e = none from if_neg (by omega)] at hP
    exact hP
  · rw [show aj_sel c j e = some (e / 8 ^ j % 8) from if_pos (by omega)] at hP
    exact aj_dig j he hj hP ey
def aj_AV (h : Nat → Int32) (c e : Nat) : Nat := aj_MV h (aj_sel c 0 e) (aj_sel c 1 e) (aj_sel c 2 e) (aj_sel c 3 e) (aj_sel c 4 e)
theorem aj_agr {post : Int32 → Prop} (h : Nat → Int32) (c e : Nat) (he : e < 32768) (hc : c < 5) (hp : post (nI (aj_AV h c e))) {p1 : Int32} (e1 : p1 = nI (c + 1) := by rfl) : wpX_agreeing post h (nI e) p1 := by
  subst e1
  unfold wpX_agreeing
  refine aj_dig 0 he (by omega) ?_
  refine aj_pick (fun r => wX_agreeing_20 post (nI e) (nI (c + 1)) (nI (e / 8 ^ 0 % 8)) r h) c 1 e he hc (by omega) ?_
  refine aj_pick (fun r => wX_agreeing_36 post (nI e) (nI (c + 1)) (nI (e / 8 ^ 0 % 8)) (aj_O (aj_sel c 1 e)) r h) c 2 e he hc (by omega) ?_
  refine aj_pick (fun r => wX_agreeing_52 post (nI e) (nI (c + 1)) (nI (e / 8 ^ 0 % 8)) (aj_O (aj_sel c 1 e)) (aj_O (aj_sel c 2 e)) r h) c 3 e he hc (by omega) ?_
  refine aj_pick (fun r => wX_agreeing_68 post (nI (e / 8 ^ 0 % 8)) (aj_O (aj_sel c 1 e)) (aj_O (aj_sel c 2 e)) (aj_O (aj_sel c 3 e)) r h) c 4 e he hc (by omega) ?_
  exact aj_mat h (aj_sel c 0 e) (aj_sel c 1 e) (aj_sel c 2 e) (aj_sel c 3 e) (aj_sel c 4 e) (aj_sel_ok _ _ _) (aj_sel_ok _ _ _) (aj_sel_ok _ _ _) (aj_sel_ok _ _ _) (aj_sel_ok _ _ _) hp (by rw [show aj_sel c 0 e = some (e / 8 ^ 0 % 8) from if_pos (by omega)]; rfl)
end
section
def aj_A (h : Nat → Int32) (n : Nat) : Nat := aj_T h 0 (n / 4096 % 8) (n / 512 % 8) * aj_T h 1 (n / 512 % 8) (n / 64 % 8) * aj_T h 2 (n / 64 % 8) (n / 8 % 8) * aj_T h 3 (n / 512 % 8) (n % 8)
def aj_M (p q r s t : Option Nat) (n : Nat) : Nat := aj_mt p (n / 4096 % 8) * aj_mt q (n / 512 % 8) * aj_mt r (n / 64 % 8) * aj_mt s (n / 8 % 8) * aj_mt t (n % 8)
theorem aj_mul01 {a b : Nat} (ha : a ≤ 1) (hb : b ≤ 1) : a * b ≤ 1 := Nat.mul_le_mul ha hb
theorem aj_A_le (h : Nat → Int32) (n : Nat) : aj_A h n ≤ 1 := aj_mul01 (aj_mul01 (aj_mul01 (aj_T_le _ _ _ _) (aj_T_le _ _ _ _)) (aj_T_le _ _ _ _)) (aj_T_le _ _ _ _)
theorem aj_M_le (p q r s t : Option Nat) (n : Nat) : aj_M p q r s t n ≤ 1 := aj_mul01 (aj_mul01 (aj_mul01 (aj_mul01 (aj_mt_le _ _) (aj_mt_le _ _)) (aj_mt_le _ _)) (aj_mt_le _ _)) (aj_mt_le _ _)
theorem aj_sm5 (f : Nat → Nat) : aj_sm f 32768 = aj_sm (fun x => aj_sm (fun y => aj_sm (fun z => aj_sm (fun s => aj_sm (fun t => f ((((x * 8 + y) * 8 + z) * 8 + s) * 8 + t)) 8) 8) 8) 8) 8 := by
  have e1 := aj_sm_blk f 8 4096
  have e2 := aj_sm_blk (fun m => aj_sm (fun d => f (m * 8 + d)) 8) 8 512
  have e3 := aj_sm_blk (fun m => aj_sm (fun d => aj_sm (fun d' => f ((m * 8 + d) * 8 + d')) 8) 8) 8 64
  have e4 := aj_sm_blk (fun m => aj_sm (fun d => aj_sm (fun d' => aj_sm (fun d'' => f (((m * 8 + d) * 8 + d') * 8 + d'')) 8) 8) 8) 8 8
  rw [show 4096 * 8 = 32768 from rfl] at e1
  rw [show 512 * 8 = 4096 from rfl] at e2
  rw [show 64 * 8 = 512 from rfl] at e3
  rw [show 8 * 8 = 64 from rfl] at e4
  rw [e1, e2, e3, e4]
theorem aj_FT_l (h : Nat → Int32) (i y : Nat) (o : Option Nat) (hy : y < 8) : aj_FT h i (some y) o = aj_sm (fun x => aj_mt o x * aj_T h i y x) 8 := by
  unfold aj_FT
  rw [aj_sm_one (v := y) hy (fun x _ hn => by show aj_e x y * _ = 0; rw [aj_e_f hn, Nat.zero_mul])]
  show aj_e y y * _ = _
  rw [aj_e_t rfl, Nat.one_mul]
theorem aj_FT_r (h : Nat → Int32) (i y : Nat) (o : Option Nat) (hy : y < 8) : aj_FT h i o (some y) = aj_sm (fun x => aj_mt o x * aj_T h i x y) 8 := by
  unfold aj_FT
  refine aj_cg (fun x _ => congrArg _ ?_)
  rw [aj_sm_one (v := y) hy (fun x _ hn => by show aj_e x y * _ = 0; rw [aj_e_f hn, Nat.zero_mul])]
  show aj_e y y * _ = _
  rw [aj_e_t rfl, Nat.one_mul]
theorem aj_FT_lr (h : Nat → Int32) (i y z : Nat) (hy : y < 8) (hz : z < 8) : aj_FT h i (some y) (some z) = aj_T h i y z := by
  rw [aj_FT_l h i y _ hy]
  rw [aj_sm_one (v := z) hz (fun x _ hn => by show aj_e x z * _ = 0; rw [aj_e_f hn, Nat.zero_mul])]
  show aj_e z z * _ = _
  rw [aj_e_t rfl, Nat.one_mul]
theorem aj_MV_eq (h : Nat → Int32) (p q r s t : Option Nat) : aj_MV h p q r s t = aj_sm (fun n => aj_M p q r s t n * aj_A h n) 32768 := by
  rw [aj_sm5]
  have e1 : ∀ x y z, x < 8 → y < 8 → z < 8 → aj_sm (fun s' => aj_sm (fun t' => aj_M p q r s t ((((x * 8 + y) * 8 + z) * 8 + s') * 8 + t') * aj_A h ((((x * 8 + y) * 8 + z) * 8 + s') * 8 + t')) 8) 8 = (aj_mt p x * aj_T h 0 x y) * (aj_mt q y * aj_mt r z * aj_T h 1 y z * (aj_sm (fun s' => aj_mt s s' * aj_T h 2 z s') 8) * (aj_sm (fun t' => aj_mt t t' * aj_T h 3 y t') 8)) := by
    intro x y z hx hy hz
    have e2 : ∀ s' t', s' < 8 → t' < 8 → aj_M p q r s t ((((x * 8 + y) * 8 + z) * 8 + s') * 8 + t') * aj_A h ((((x * 8 + y) * 8 + z) * 8 + s') * 8 + t') = ((aj_mt p x * aj_T h 0 x y) * (aj_mt q y * aj_mt r z * aj_T h 1 y z * (aj_mt s s' * aj_T h 2 z s'))) * (aj_mt t t' * aj_T h 3 y t') := by
      intro s' t' hs ht
      unfold aj_M aj_A
      rw [show ((((x * 8 + y) * 8 + z) * 8 + s') * 8 + t') / 4096 % 8 = x from by omega, show ((((x * 8 + y) * 8 + z) * 8 + s') * 8 + t') / 512 % 8 = y from by omega, show ((((x * 8 + y) * 8 + z) * 8 + s') * 8 + t') / 64 % 8 = z from by omega, show ((((x * 8 + y) * 8 + z) * 8 + s') * 8 + t') / 8 % 8 = s' from by omega, show ((((x * 8 + y) * 8 + z) * 8 + s') * 8 + t') % 8 = t' from by omega]
      ac_rfl
    rw [aj_cg (g := fun s' => ((aj_mt p x * aj_T h 0 x y) * (aj_mt q y * aj_mt r z * aj_T h 1 y z)) * (aj_mt s s' * aj_T h 2 z s') * (aj_sm (fun t' => aj_mt t t' * aj_T h 3 y t') 8)) (fun s' hs => by
      rw [aj_cg (fun t' ht => e2 s' t' hs ht), aj_sm_mul]
      ac_rfl)]
    rw [aj_sm_mulr, aj_sm_mul]
    ac_rfl
  rw [aj_cg (fun x hx => aj_cg (fun y hy => aj_cg (fun z hz => e1 x y z hx hy hz)))]
  rw [aj_sm_swap]
  unfold aj_MV
  refine aj_cg (fun y hy => ?_)
  rw [aj_sm_swap, ← aj_sm_mul]
  refine aj_cg (fun z hz => ?_)
  rw [aj_sm_mulr, aj_FT_r h 0 y p hy, aj_FT_l h 3 y t hy, aj_FT_lr h 1 y z hy hz, aj_FT_l h 2 z s hz]
  ac_rfl
theorem aj_MV_le (h : Nat → Int32) (p q r s t : Option Nat) : aj_MV h p q r s t ≤ 32768 := by
  rw [aj_MV_eq]
  exact aj_sm_bd (fun i _ => aj_mul01 (aj_M_le _ _ _ _ _ _) (aj_A_le _ _))
end
section
def aj_vi (n c : Nat) : Nat := n / 8 ^ (4 - c) % 8
theorem aj_vi_lt (n c : Nat) : aj_vi n c < 8 := Nat.mod_lt _ (by decide)
theorem aj_viE {n c : Nat} (hn : n < 32768) (hc : c < 5) : ((nI n) >>> ((12 - (3 * nI c)) &&& 31)) &&& 7 = nI (aj_vi n c) := by
  have hj' : c = 0 ∨ c = 1 ∨ c = 2 ∨ c = 3 ∨ c = 4 := by omega
  have key : ∀ (s : Int32) (k : Nat), (s.toBitVec.smod 32).toNat = k → (nI n >>> s) &&& 7 = nI (n / 2 ^ k % 8) := by
    intro s k hs
    rw [pk_shrN (by omega) s k hs, pk_andN (Nat.lt_of_le_of_lt (Nat.div_le_self _ _) (by omega)) 3 (by decide)]
  rcases hj' with rfl | rfl | rfl | rfl | rfl
  · exact key _ 12 (by decide)
  · exact key _ 9 (by decide)
  · exact key _ 6 (by decide)
  · exact key _ 3 (by decide)
  · exact key _ 0 (by decide)
theorem aj_yval {post : Int32 → Prop} {R C S : Nat → Int32} {n : Nat} (c : Nat) (hn : n < 32768) (hc : c < 5) (hp : post (nI (aj_vi n c))) {p1 : Int32} (e1 : p1 = nI c := by rfl) : wpY_valueIn post (R, C, S) (nI n) p1 := by
  subst e1
  unfold wpY_valueIn
  dsimp only
  rw [aj_viE hn hc]
  exact hp
def aj_f1 (i : Nat) : Nat := match i with
  | 0 => 0
  | 1 => 1
  | 2 => 2
  | _ => 1
def aj_f2 (i : Nat) : Nat := match i with
  | 0 => 1
  | 1 => 2
  | 2 => 3
  | _ => 4
def aj_ro (n i : Nat) : Nat := 64 * i + 8 * aj_vi n (aj_f1 i) + aj_vi n (aj_f2 i)
theorem aj_yrow46 {post : Int32 → Prop} {R C S : Nat → Int32} {n : Nat} (i c d : Nat) (hn : n < 32768) (hc : c < 5) (hd : d < 5) (hp : post (nI (64 * i + 8 * aj_vi n c + aj_vi n d))) {x2 x3 z0 : Int32} (e1 : x2 = nI i := by rfl) (e2 : x3 = nI c := by rfl) (e3 : z0 = nI d := by rfl) : wY_rowOf_46 post (nI n) x2 x3 z0 R C S := by
  subst e1
  unfold wY_rowOf_46
  refine aj_yval c hn hc ?_ e2
  refine aj_yval d hn hd ?_ e3
  rw [show (64 : Int32) = nI 64 from rfl, show (8 : Int32) = nI 8 from rfl, pk_mul, pk_mul, nI_add, nI_add]
  exact hp
theorem aj_yrow {post : Int32 → Prop} {R C S : Nat → Int32} {n : Nat} (i : Nat) (hn : n < 32768) (hi : i < 4) (hp : post (nI (aj_ro n i))) {p1 : Int32} (e1 : p1 = nI i := by rfl) : wpY_rowOf post (R, C, S) (nI n) p1 := by
  subst e1
  have hj' : i = 0 ∨ i = 1 ∨ i = 2 ∨ i = 3 := by omega
  unfold wpY_rowOf
  dsimp only
  rcases hj' with rfl | rfl | rfl | rfl
  · refine br_t (by decide) ?_
    exact br_t (by decide) (aj_yrow46 0 0 1 hn (by omega) (by omega) hp)
  · refine br_f (by decide) (br_f (by decide) ?_)
    exact br_f (by decide) (br_t (by decide) (aj_yrow46 1 1 2 hn (by omega) (by omega) hp))
  · refine br_f (by decide) (br_t (by decide) ?_)
    exact br_f (by decide) (br_f (by decide) (br_t (by decide) (aj_yrow46 2 2 3 hn (by omega) (by omega) hp)))
  · refine br_f (by decide) (br_f (by decide) ?_)
    exact br_f (by decide) (br_f (by decide) (br_f (by decide) (aj_yrow46 3 1 4 hn (by omega) (by omega) hp)))
theorem aj_yans {post : Int32 → Prop} {R C S : Nat → Int32} {n : Nat} (hn : n < 32768) (hp : post (nI (aj_A R n))) : wpY_isAnswer post (R, C, S) (nI n) := by
  have c1 : (64 : Int32) + ((nI n >>> ((6 : Int32) &&& 31)) &&& 63) = nI (64 + n / 64 % 64) := by
    rw [pk_shrN (by omega) _ 6 (by decide), pk_andN (Nat.lt_of_le_of_lt (Nat.div_le_self _ _) (by omega)) 6 (by decide), show (64 : Int32) = nI 64 from rfl, nI_add]
  have c0 : nI n >>> ((9 : Int32) &&& 31) = nI (n / 512) := pk_shrN (by omega) _ 9 (by decide)
  have c2 : (128 : Int32) + ((nI n >>> ((3 : Int32) &&& 31)) &&& 63) = nI (128 + n / 8 % 64) := by
    rw [pk_shrN (by omega) _ 3 (by decide), pk_andN (Nat.lt_of_le_of_lt (Nat.div_le_self _ _) (by omega)) 6 (by decide), show (128 : Int32) = nI 128 from rfl, nI_add]
  unfold wpY_isAnswer
  dsimp only
  rw [c1, c0, c2]
  unfold aj_A at hp
  have k1 : aj_T R 1 (n / 512 % 8) (n / 64 % 8) = if R (64 + n / 64 % 64) = 0 then 0 else 1 := by
    unfold aj_T
    rw [show (1 * 8 + n / 512 % 8) * 8 + n / 64 % 8 = 64 + n / 64 % 64 from by omega]
  have k0 : aj_T R 0 (n / 4096 % 8) (n / 512 % 8) = if R (n / 512) = 0 then 0 else 1 := by
    unfold aj_T
    rw [show (0 * 8 + n / 4096 % 8) * 8 + n / 512 % 8 = n / 512 from by omega]
  have k2 : aj_T R 2 (n / 64 % 8) (n / 8 % 8) = if R (128 + n / 8 % 64) = 0 then 0 else 1 := by
    unfold aj_T
    rw [show (2 * 8 + n / 64 % 8) * 8 + n / 8 % 8 = 128 + n / 8 % 64 from by omega]
  have k3 : aj_T R 3 (n / 512 % 8) (n % 8) = if R (aj_ro n 3) = 0 then 0 else 1 := by
    unfold aj_T
    rw [show (3 * 8 + n / 512 % 8) * 8 + n % 8 = aj_ro n 3 from by
      show _ = 64 * 3 + 8 * (n / 512 % 8) + n / 1 % 8
      omega]
  have hro : aj_ro n 3 < 256 := by
    have h1 := aj_vi_lt n 1
    have h2 := aj_vi_lt n 4
    show 64 * 3 + 8 * aj_vi n 1 + aj_vi n 4 < 256
    omega
  rw [k0, k1, k2, k3] at hp
  refine ⟨vp_in_nI (by omega) (by omega), ?_⟩
  rw [nI_clamp (by omega)]
  by_cases z1 : R (64 + n / 64 % 64) = 0
  · refine br_t z1 ?_
    rw [if_pos z1, Nat.mul_zero, Nat.zero_mul, Nat.zero_mul] at hp
    exact hp
  refine br_f z1 ⟨vp_in_nI (by omega) (by omega), ?_⟩
  rw [nI_clamp (by omega)]
  by_cases z0 : R (n / 512) = 0
  · refine br_t z0 ?_
    rw [if_pos z0, Nat.zero_mul, Nat.zero_mul, Nat.zero_mul] at hp
    exact hp
  refine br_f z0 ⟨vp_in_nI (by omega) (by omega), ?_⟩
  rw [nI_clamp (by omega)]
  by_cases z2 : R (128 + n / 8 % 64) = 0
  · refine br_t z2 ?_
    rw [if_pos z2, Nat.mul_zero, Nat.zero_mul] at hp
    exact hp
  refine br_f z2 ?_
  refine aj_yrow 3 hn (by omega) ?_
  refine ⟨vp_in_nI hro (by omega), ?_⟩
  rw [nI_clamp (by omega)]
  by_cases z3 : R (aj_ro n 3) = 0
  · refine br_t z3 ?_
    rw [if_pos z3, Nat.mul_zero] at hp
    exact hp
  · refine br_f z3 ?_
    rw [if_neg z0, if_neg z1, if_neg z2, if_neg z3] at hp
    exact hp
theorem aj_A01 (h : Nat → Int32) (n : Nat) : aj_A h n = 0 ∨ aj_A h n = 1 := by
  have := aj_A_le h n
  omega
theorem aj_ycount {post : Int32 → Prop} {R C S : Nat → Int32} (hp : post (nI (aj_sm (aj_A R) 32768))) : wpY_count post (R, C, S) := by
  unfold wpY_count
  dsimp only
  refine aj_acc0 (fun n x1 x2 => wY_count_4 post R C S n x1 x2) (aj_A R) 32768 post ?_ ?_ 0 ?_
  · intro n a hk
    exact br_t (nI_le (a := 32768) (Nat.le_refl _) (by decide)) hk
  · intro n i a hi hw
    refine br_f (nI_ge (b := 32768) hi (by decide)) ?_
    refine aj_yans hi ?_
    rcases aj_A01 R i with e | e
    · rw [e, nI_0, Int32.add_zero] at hw
      rw [e]
      exact br_t rfl (nm_r (nI_1 i) hw)
    · rw [e] at hw
      rw [e]
      exact br_f (by decide) (nm_e (nm_r (nI_1 i) hw))
  · rw [Int32.zero_add]
    exact hp
theorem aj_yrank21 {post : Int32 → Prop} {R C S : Nat → Int32} (L : Nat) (hL : L ≤ 32768) (hp : post (nI (aj_sm (aj_A R) L))) : ∃ n, wY_rank_21 post (nI L) R C S n 0 0 := by
  refine aj_acc0 (fun n x1 x2 => wY_rank_21 post (nI L) R C S n x1 x2) (aj_A R) L post ?_ ?_ 0 ?_
  · intro n a hk
    exact br_t (nI_le (Nat.le_refl _) (by omega)) hk
  · intro n i a hi hw
    refine br_f (nI_ge hi (by omega)) ?_
    refine aj_yans (by omega) ?_
    rcases aj_A01 R i with e | e
    · rw [e, nI_0, Int32.add_zero] at hw
      rw [e]
      exact br_t rfl (nm_r (nI_1 i) hw)
    · rw [e] at hw
      rw [e]
      exact br_f (by decide) (nm_e (nm_r (nI_1 i) hw))
  · rw [Int32.zero_add]
    exact hp
theorem aj_ro_lt {n i : Nat} (hi : i < 4) : aj_ro n i < 256 := by
  have h1 := aj_vi_lt n (aj_f1 i)
  have h2 := aj_vi_lt n (aj_f2 i)
  unfold aj_ro
  omega
def aj_CW (R : Nat → Int32) (i c : Nat) : Nat := aj_sm (fun n => aj_A R n * aj_e (aj_ro n i) c) 32768
theorem aj_ycw {post : Int32 → Prop} {R C S : Nat → Int32} (i c : Nat) (hi : i < 4) (hc : c / 64 = i) (hp : post (nI (aj_CW R i c))) : wpY_countWith post (R, C, S) (nI c) := by
  have hc2 : c < 256 := by omega
  unfold wpY_countWith
  dsimp only
  refine aj_acc0 (fun n x1 x2 => wY_countWith_4 post (nI c) R C S n x1 x2) (fun n => aj_A R n * aj_e (aj_ro n i) c) 32768 post ?_ ?_ 0 ?_
  · intro n a hk
    exact br_t (nI_le (a := 32768) (Nat.le_refl _) (by decide)) hk
  · intro n j a hj hw
    refine br_f (nI_ge (b := 32768) hj (by decide)) ?_
    refine aj_yans hj ?_
    rcases aj_A01 R j with e | e
    · rw [e, Nat.zero_mul, nI_0, Int32.add_zero] at hw
      rw [e]
      exact br_t rfl (nm_r (nI_1 j) hw)
    · rw [e, Nat.one_mul] at hw
      rw [e]
      refine br_f (by decide) ⟨by decide, ?_⟩
      refine aj_yrow i hj hi ?_ (by rw [show (64 : Int32) = nI 64 from rfl, pk_div (by omega) (by decide) (by decide), hc])
      have hro := aj_ro_lt (n := j) hi
      refine pk_eq (aj_ro j i) c (fun he => ?_) (fun hne => ?_)
      · rw [aj_e_t he] at hw
        exact nm_e (nm_r (nI_1 j) hw)
      · rw [aj_e_f hne, nI_0, Int32.add_zero] at hw
        exact nm_r (nI_1 j) hw
  · rw [Int32.zero_add]
    exact hp
def aj_CV (R : Nat → Int32) (c v : Nat) : Nat := aj_sm (fun n => aj_A R n * aj_e (aj_vi n c) v) 32768
theorem aj_ycv {post : Int32 → Prop} {R C S : Nat → Int32} (c v : Nat) (hc : c < 5) (hv : v < 8) (hp : post (nI (aj_CV R c v))) : wpY_countValue post (R, C, S) (nI c) (nI v) := by
  unfold wpY_countValue
  dsimp only
  refine aj_acc0 (fun n x1 x2 => wY_countValue_5 post (nI c) (nI v) R C S n x1 x2) (fun n => aj_A R n * aj_e (aj_vi n c) v) 32768 post ?_ ?_ 0 ?_
  · intro n a hk
    exact br_t (nI_le (a := 32768) (Nat.le_refl _) (by decide)) hk
  · intro n j a hj hw
    refine br_f (nI_ge (b := 32768) hj (by decide)) ?_
    refine aj_yval c hj hc ?_
    have hro := aj_vi_lt j c
    refine pk_eq (aj_vi j c) v (fun he => ?_) (fun hne => ?_)
    · rw [aj_e_t he, Nat.mul_one] at hw
      refine aj_yans hj ?_
      rcases aj_A01 R j with e | e
      · rw [e, nI_0, Int32.add_zero] at hw
        rw [e]
        exact br_t rfl (nm_r (nI_1 j) hw)
      · rw [e] at hw
        rw [e]
        exact br_f (by decide) (nm_e (nm_r (nI_1 j) hw))
    · rw [aj_e_f hne, Nat.mul_zero, nI_0, Int32.add_zero] at hw
      exact nm_r (nI_1 j) hw
  · rw [Int32.zero_add]
    exact hp
theorem aj_ysum {post : Int32 → Prop} {R C S : Nat → Int32} (hp : post (nI (aj_sm (fun n => aj_A R n * (aj_vi n 3 + aj_vi n 4)) 32768))) : wpY_sum post (R, C, S) := by
  unfold wpY_sum
  dsimp only
  refine aj_acc0 (fun n x1 x2 => wY_sum_4 post R C S n x1 x2) (fun n => aj_A R n * (aj_vi n 3 + aj_vi n 4)) 32768 post ?_ ?_ 0 ?_
  · intro n a hk
    exact br_t (nI_le (a := 32768) (Nat.le_refl _) (by decide)) hk
  · intro n j a hj hw
    refine br_f (nI_ge (b := 32768) hj (by decide)) ?_
    refine aj_yans hj ?_
    rcases aj_A01 R j with e | e
    · rw [e, Nat.zero_mul, nI_0, Int32.add_zero] at hw
      rw [e]
      exact br_t rfl (nm_r (nI_1 j) hw)
    · rw [e, Nat.one_mul] at hw
      rw [e]
      refine br_f (by decide) ?_
      refine aj_yval 3 hj (by omega) ?_
      refine aj_yval 4 hj (by omega) ?_
      exact nm_r (by rw [Int32.add_assoc, nI_add]) (nm_r (nI_1 j) hw)
  · rw [Int32.zero_add]
    exact hp
end
section
def i_Rel (_ : Nat) (u : SX) (v : SY) : Prop := ∃ C S : Nat → Int32, v = (u, C, S) ∧ ∀ i, i < 4 → C i = nI (aj_FT u i none none) ∧ aj_FT u i none none ≤ 10
theorem i_up {k : Nat} {u : SX} {v : SY} (h : i_Rel k u v) : i_Rel (k + 4) u v := h
theorem aj_FT_nn (h : Nat → Int32) (i : Nat) : aj_FT h i none none = aj_sm (fun x => aj_sm (fun y => aj_T h i x y) 8) 8 := by
  unfold aj_FT
  refine aj_cg (fun x _ => ?_)
  show 1 * _ = _
  rw [Nat.one_mul]
  exact aj_cg (fun y _ => Nat.one_mul _)
theorem aj_FT_same {h h' : Nat → Int32} {i : Nat} (e : ∀ x y, x < 8 → y < 8 → h' ((i * 8 + x) * 8 + y) = h ((i * 8 + x) * 8 + y)) : aj_FT h' i none none = aj_FT h i none none := by
  rw [aj_FT_nn, aj_FT_nn]
  refine aj_cg (fun x hx => aj_cg (fun y hy => ?_))
  unfold aj_T
  rw [e x y hx hy]
theorem aj_FT_step {h h' : Nat → Int32} {i a b : Nat} (ha : a < 8) (hb : b < 8) (h0 : h ((i * 8 + a) * 8 + b) = 0) (h1 : ¬ h' ((i * 8 + a) * 8 + b) = 0) (e : ∀ j, j ≠ (i * 8 + a) * 8 + b → h' j = h j) : aj_FT h' i none none = aj_FT h i none none + 1 := by
  rw [aj_FT_nn, aj_FT_nn]
  have k : ∀ x y, x < 8 → y < 8 → aj_T h' i x y = aj_T h i x y + aj_e x a * aj_e y b := by
    intro x y hx hy
    unfold aj_T
    by_cases ex : x = a
    · subst ex
      by_cases ey : y = b
      · subst ey
        rw [if_neg h1, if_pos h0, aj_e_t rfl, aj_e_t rfl]
      · rw [e _ (by omega), aj_e_f ey, Nat.mul_zero, Nat.add_zero]
    · rw [e _ (by omega), aj_e_f ex, Nat.zero_mul, Nat.add_zero]
  rw [aj_cg (fun x hx => aj_cg (fun y hy => k x y hx hy))]
  rw [aj_cg (g := fun x => aj_sm (fun y => aj_T h i x y) 8 + aj_e x a * aj_sm (fun y => aj_e y b) 8) (fun x _ => by rw [aj_sm_add, aj_sm_mul])]
  rw [aj_sm_add, aj_sm_mulr, aj_sm_one (v := b) hb (fun y _ hn => aj_e_f hn), aj_sm_one (v := a) ha (fun y _ hn => aj_e_f hn), aj_e_t rfl, aj_e_t rfl]
theorem i_vc0 : wpX_init (fun u => wpY_init (fun v => i_Rel 0 u v)) := by
  unfold wpX_init wpY_init
  refine ⟨fun _ => 0, fun _ => 0, rfl, fun i _ => ?_⟩
  have e : aj_FT (fun _ => 0) i none none = 0 := by
    rw [aj_FT_nn]
    exact aj_sm_z (fun x _ => aj_sm_z (fun y _ => if_pos rfl))
  rw [e]
  exact ⟨rfl, by omega⟩
theorem aj_out {v : Int32} {n : Nat} {P Q : Prop} (hv : v < 0 ∨ nI n ≤ v) (hP : P) {w : Int32} (ew : w = nI n := by rfl) : (v < 0 → P) ∧ (¬ v < 0 → ((w ≤ v → P) ∧ (¬ w ≤ v → Q))) := by
  subst ew
  exact br_c (fun _ => hP) (fun h => br_c (fun _ => hP) (fun h2 => (hv.elim h h2).elim))
theorem aj_lts {v : Int32} {m : Nat} (hm : m + 1 < 2 ^ 31) (h : nI (m + 1) ≤ v) : nI m < v := Int32.lt_of_lt_of_le (nI_lt (by omega) hm) h
theorem aj_outl {v : Int32} {m : Nat} {P Q : Prop} (hv : v < 0 ∨ nI (m + 1) ≤ v) (hP : P) {w : Int32} (ew : w = nI m := by rfl) (hm : m + 1 < 2 ^ 31 := by decide) : (v < 0 → P) ∧ (¬ v < 0 → ((w < v → P) ∧ (¬ w < v → Q))) := by
  subst ew
  exact br_c (fun _ => hP) (fun h => br_c (fun _ => hP) (fun h2 => (hv.elim h (fun h3 => h2 (aj_lts hm h3))).elim))
theorem aj_outr {v : Int32} {m : Nat} {P Q : Prop} (hv : v < 0 ∨ nI (m + 1) ≤ v) (hP : P) {w : Int32} (ew : w = nI m := by rfl) (hm : m + 1 < 2 ^ 31 := by decide) : (v < 0 → P) ∧ (¬ v < 0 → ((v ≤ w → Q) ∧ (¬ v ≤ w → P))) := by
  subst ew
  exact br_c (fun _ => hP) (fun h => br_c (fun h2 => (hv.elim h (fun h3 => (Int32.not_le.mpr (aj_lts hm h3)) h2)).elim) (fun _ => hP))
theorem aj_inn {j : Nat} (n : Nat) {P Q : Prop} (hj : j < n) (hn : n < 2 ^ 31) (hQ : Q) {w : Int32} (ew : w = nI n := by rfl) : (nI j < 0 → P) ∧ (¬ nI j < 0 → ((w ≤ nI j → P) ∧ (¬ w ≤ nI j → Q))) := by
  subst ew
  exact br_f (nI_pos (by omega)) (br_f (nI_ge hj hn) hQ)
theorem aj_innl {j : Nat} (m : Nat) {P Q : Prop} (hj : j ≤ m) (hn : m < 2 ^ 31) (hQ : Q) {w : Int32} (ew : w = nI m := by rfl) : (nI j < 0 → P) ∧ (¬ nI j < 0 → ((w < nI j → P) ∧ (¬ w < nI j → Q))) := by
  subst ew
  exact br_f (nI_pos (by omega)) (br_f (nI_nlt hj hn) hQ)
theorem aj_innr {j : Nat} (m : Nat) {P Q : Prop} (hj : j ≤ m) (hn : m < 2 ^ 31) (hQ : Q) {w : Int32} (ew : w = nI m := by rfl) : (nI j < 0 → P) ∧ (¬ nI j < 0 → ((nI j ≤ w → Q) ∧ (¬ nI j ≤ w → P))) := by
  subst ew
  exact br_f (nI_pos (by omega)) (br_t (nI_le hj hn) hQ)
theorem aj_xrow1 {post : Int32 → Prop} {i a b : Nat} (hi : i < 4) (ha : a < 8) (hb : b < 8) (hp : post 1) : wpX_isRow post (nI i) (nI a) (nI b) := by
  unfold wpX_isRow
  refine aj_inn 4 hi (by decide) ?_
  refine br_f (by decide) ?_
  refine aj_inn 8 ha (by decide) ?_
  refine br_f (by decide) ?_
  refine aj_inn 8 hb (by decide) ?_
  exact br_f (by decide) hp
theorem aj_yrow1 {post : Int32 → Prop} {R C S : Nat → Int32} {i a b : Nat} (hi : i < 4) (ha : a < 8) (hb : b < 8) (hp : post 1) : wpY_isRow post (R, C, S) (nI i) (nI a) (nI b) := by
  unfold wpY_isRow
  dsimp only
  refine aj_innl 3 (by omega) (by decide) ?_
  refine aj_innl 7 (by omega) (by decide) ?_
  refine br_f (by decide) ?_
  refine aj_innl 7 (by omega) (by decide) ?_
  exact br_f (by decide) hp
theorem aj_rowc (v1 v2 v3 : Int32) : (∃ i a b, i < 4 ∧ a < 8 ∧ b < 8 ∧ v1 = nI i ∧ v2 = nI a ∧ v3 = nI b) ∨ ((∀ post : Int32 → Prop, post 0 → wpX_isRow post v1 v2 v3) ∧ (∀ (R C S : Nat → Int32) (post : Int32 → Prop), post 0 → wpY_isRow post (R, C, S) v1 v2 v3)) := by
  have h1 := pk_ix v1 (n := 4) (by decide)
  have h2 := pk_ix v2 (n := 8) (by decide)
  have h3 := pk_ix v3 (n := 8) (by decide)
  rw [← or_assoc] at h1 h2 h3
  rcases h1 with h1 | ⟨i, hi, rfl⟩
  · refine Or.inr ⟨fun post hp => ?_, fun R C S post hp => ?_⟩
    · unfold wpX_isRow
      exact aj_out h1 (br_t rfl hp)
    · unfold wpY_isRow
      dsimp only
      exact aj_outl h1 hp
  rcases h2 with h2 | ⟨a, ha, rfl⟩
  · refine Or.inr ⟨fun post hp => ?_, fun R C S post hp => ?_⟩
    · unfold wpX_isRow
      refine aj_inn 4 hi (by decide) ?_
      refine br_f (by decide) ?_
      exact aj_out h2 (br_t rfl hp)
    · unfold wpY_isRow
      dsimp only
      refine aj_innl 3 (by omega) (by decide) ?_
      exact aj_outl h2 (br_t rfl hp)
  rcases h3 with h3 | ⟨b, hb, rfl⟩
  · refine Or.inr ⟨fun post hp => ?_, fun R C S post hp => ?_⟩
    · unfold wpX_isRow
      refine aj_inn 4 hi (by decide) ?_
      refine br_f (by decide) ?_
      refine aj_inn 8 ha (by decide) ?_
      refine br_f (by decide) ?_
      exact aj_out h3 (br_t rfl hp)
    · unfold wpY_isRow
      dsimp only
      refine aj_innl 3 (by omega) (by decide) ?_
      refine aj_innl 7 (by omega) (by decide) ?_
      refine br_f (by decide) ?_
      exact aj_outl h3 (br_t rfl hp)
  · exact Or.inl ⟨i, a, b, hi, ha, hb, rfl, rfl, rfl⟩
theorem aj_cellY (i a b : Nat) : ((64 * nI i) + (8 * nI a)) + nI b = nI ((i * 8 + a) * 8 + b) := by
  rw [show (64 : Int32) = nI 64 from rfl, show (8 : Int32) = nI 8 from rfl, pk_mul, pk_mul, nI_add, nI_add]
  exact congrArg nI (by omega)
theorem aj_nb1 : vp_nar .boolean 1 = 1 := rfl
theorem aj_nb0 : vp_nar .boolean 0 = 0 := rfl
end
section
theorem i_vc_put {k : Nat} {u : SX} {v : SY} (I : i_Rel k u v) (hk : k + 4 ≤ 2048) (v1 : Int32) (v2 : Int32) (v3 : Int32) : wpX_put (fun r u' => wpY_put (fun r' v' => r' = r ∧ i_Rel (k + 4) u' v') v v1 v2 v3) u v1 v2 v3 := by
  obtain ⟨C, S, rfl, hC⟩ := I
  rcases aj_rowc v1 v2 v3 with ⟨i, a, b, hi, ha, hb, rfl, rfl, rfl⟩ | ⟨hX, hY⟩
  · have hc : (i * 8 + a) * 8 + b < 256 := by omega
    obtain ⟨hCi, hC10⟩ := hC i hi
    unfold wpX_put wpY_put
    dsimp only
    rw [aj_cellY]
    refine aj_xrow1 hi ha hb ?_
    refine br_f (by decide) ?_
    refine aj_cell i a b ?_
    refine ⟨vp_in_nI hc (by omega), ?_⟩
    rw [nI_clamp (by omega)]
    by_cases z : u ((i * 8 + a) * 8 + b) = 0
    · refine br_t z ?_
      refine aj_fit u i none none hi True.intro True.intro ?_
      refine pk_lt (aj_FT u i none none) 10 (fun hlt => ?_) (fun hge => ?_)
      · refine ⟨vp_in_nI hc (by omega), ?_⟩
        refine nm_e ?_
        refine aj_fit _ i none none hi True.intro True.intro ?_
        refine aj_yrow1 hi ha hb ?_
        refine br_f (by decide) ⟨vp_in_nI hc (by omega), ?_⟩
        refine br_t z ⟨vp_in_nI hi (by omega), ?_⟩
        rw [nI_clamp (by omega)]
        refine br_f (by rw [hCi]; intro e; have := (nI_eq (b := 10) (by omega) (by decide)).mp e; omega) ?_
        refine ⟨vp_in_nI hc (by omega), nm_e ⟨vp_in_nI hi (by omega), vp_in_nI hi (by omega), nm_e ⟨vp_in_nI hi (by omega), ?_, ?_⟩⟩⟩
        · rw [pk_us, hCi, nI_1]
          exact congrArg nI (aj_FT_step ha hb z (by rw [pk_us]; decide) (fun j hj => pk_un hj)).symm
        · refine ⟨_, _, rfl, fun j hj => ?_⟩
          by_cases e : j = i
          · subst e
            rw [pk_us, hCi, nI_1, aj_FT_step ha hb z (by rw [pk_us]; decide) (fun j hj => pk_un hj)]
            exact ⟨rfl, by omega⟩
          · rw [pk_un e, aj_FT_same (h := u) (fun x y hx hy => pk_un (by omega))]
            exact hC j hj
      · refine aj_yrow1 hi ha hb ?_
        refine br_f (by decide) ⟨vp_in_nI hc (by omega), ?_⟩
        refine br_t z ⟨vp_in_nI hi (by omega), ?_⟩
        rw [nI_clamp (by omega)]
        refine br_t (by rw [hCi, show aj_FT u i none none = 10 from by omega]; rfl) ?_
        exact ⟨rfl, C, S, rfl, hC⟩
    · refine br_f z ?_
      refine aj_yrow1 hi ha hb ?_
      refine br_f (by decide) ⟨vp_in_nI hc (by omega), ?_⟩
      exact br_f z ⟨rfl, C, S, rfl, hC⟩
  · unfold wpX_put wpY_put
    dsimp only
    refine hX _ (br_t rfl ?_)
    exact hY _ _ _ _ (br_t rfl ⟨rfl, C, S, rfl, hC⟩)
theorem i_vc_drop {k : Nat} {u : SX} {v : SY} (I : i_Rel k u v) (hk : k + 4 ≤ 2048) (v1 : Int32) (v2 : Int32) (v3 : Int32) : wpX_drop (fun r u' => wpY_drop (fun r' v' => r' = r ∧ i_Rel (k + 4) u' v') v v1 v2 v3) u v1 v2 v3 := by
  obtain ⟨C, S, rfl, hC⟩ := I
  rcases aj_rowc v1 v2 v3 with ⟨i, a, b, hi, ha, hb, rfl, rfl, rfl⟩ | ⟨hX, hY⟩
  · have hc : (i * 8 + a) * 8 + b < 256 := by omega
    obtain ⟨hCi, hC10⟩ := hC i hi
    unfold wpX_drop wpY_drop
    dsimp only
    rw [aj_cellY]
    refine aj_xrow1 hi ha hb ?_
    refine br_f (by decide) ?_
    refine aj_cell i a b ?_
    refine ⟨vp_in_nI hc (by omega), ?_⟩
    rw [nI_clamp (by omega)]
    by_cases z : u ((i * 8 + a) * 8 + b) = 0
    · refine br_t z ?_
      refine aj_yrow1 hi ha hb ?_
      refine br_f (by decide) ⟨vp_in_nI hc (by omega), ?_⟩
      exact br_t z ⟨rfl, C, S, rfl, hC⟩
    · refine br_f z ⟨vp_in_nI hc (by omega), nm_e ?_⟩
      have st : aj_FT u i none none = aj_FT (upd u ((i * 8 + a) * 8 + b) (vp_nar .boolean 0)) i none none + 1 := aj_FT_step ha hb (by rw [pk_us]; decide) z (fun j hj => (pk_un hj).symm)
      refine aj_fit _ i none none hi True.intro True.intro ?_
      refine aj_yrow1 hi ha hb ?_
      refine br_f (by decide) ⟨vp_in_nI hc (by omega), ?_⟩
      refine br_f z ⟨vp_in_nI hc (by omega), nm_e ?_⟩
      rw [nI_clamp (by omega)]
      refine ⟨vp_in_nI hi (by omega), vp_in_nI hi (by omega), nm_e ⟨vp_in_nI hi (by omega), ?_, ?_⟩⟩
      · rw [pk_us, hCi, st, nI_pred]
      · refine ⟨_, _, rfl, fun j hj => ?_⟩
        by_cases e : j = i
        · subst e
          rw [pk_us, hCi, st, nI_pred]
          exact ⟨rfl, by omega⟩
        · rw [pk_un e, aj_FT_same (h := u) (fun x y hx hy => pk_un (by omega))]
          exact hC j hj
  · unfold wpX_drop wpY_drop
    dsimp only
    refine hX _ (br_t rfl ?_)
    exact hY _ _ _ _ (br_t rfl ⟨rfl, C, S, rfl, hC⟩)
def aj_clr (h : Nat → Int32) (i m : Nat) : Nat → Int32 := fun j => if 64 * i ≤ j ∧ j < 64 * i + m then 0 else h j
theorem aj_clr0 (h : Nat → Int32) (i : Nat) : aj_clr h i 0 = h := by
  funext j
  exact if_neg (by omega)
theorem aj_clrs (h : Nat → Int32) (i m : Nat) : upd (aj_clr h i m) (64 * i + m) (vp_nar .boolean 0) = aj_clr h i (m + 1) := by
  funext j
  by_cases e : j = 64 * i + m
  · subst e
    rw [pk_us]
    exact (if_pos (by omega)).symm
  · rw [pk_un e]
    unfold aj_clr
    by_cases l : 64 * i ≤ j ∧ j < 64 * i + m
    · rw [if_pos l, if_pos (by omega)]
    · rw [if_neg l, if_neg (by omega)]
theorem aj_xclr28 {post : Int32 → SX → Prop} {J : Int32 → (Nat → Int32) → Prop} (h : Nat → Int32) (i : Nat) (hi : i < 4) (x2 : Int32) (x : Nat) (hx : x < 8) (hJ : J (nI (x + 1)) (aj_clr h i (8 * (x + 1)))) : ∀ d y n, y + d = 8 → d < n → wX_clear_28 post J (nI i) x2 (nI x) n (nI y) (aj_clr h i (8 * x + y)) := by
  intro d
  induction d with
  | zero =>
    intro y n hy hn
    obtain ⟨m, rfl⟩ : ∃ m, n = m + 1 := ⟨n - 1, by omega⟩
    refine br_t (nI_le (a := 8) (by omega) (by omega)) (nm_r (nI_1 x) ?_)
    rw [show 8 * x + y = 8 * (x + 1) from by omega]
    exact hJ
  | succ d ih =>
    intro y n hy hn
    obtain ⟨m, rfl⟩ : ∃ m, n = m + 1 := ⟨n - 1, by omega⟩
    refine br_f (nI_ge (b := 8) (by omega) (by omega)) ?_
    refine aj_cell i x y ?_
    refine ⟨vp_in_nI (by omega) (by omega), ?_⟩
    rw [nI_clamp (by omega), show (i * 8 + x) * 8 + y = 64 * i + (8 * x + y) from by omega, aj_clrs]
    exact nm_e (nm_r (nI_1 y) (ih (y + 1) m (by omega) (by omega)))
theorem aj_xclr19 {post : Int32 → SX → Prop} (h : Nat → Int32) (i : Nat) (hi : i < 4) (x2 : Int32) (hp : post x2 (aj_clr h i 64)) : ∀ d x n, x + d = 8 → d < n → wX_clear_19 post (nI i) x2 n (nI x) (aj_clr h i (8 * x)) := by
  intro d
  induction d with
  | zero =>
    intro x n hx hn
    obtain ⟨m, rfl⟩ : ∃ m, n = m + 1 := ⟨n - 1, by omega⟩
    refine br_t (nI_le (a := 8) (by omega) (by omega)) ?_
    rw [show 8 * x = 64 from by omega]
    exact hp
  | succ d ih =>
    intro x n hx hn
    obtain ⟨m, rfl⟩ : ∃ m, n = m + 1 := ⟨n - 1, by omega⟩
    refine br_f (nI_ge (b := 8) (by omega) (by omega)) ?_
    exact ⟨9, aj_xclr28 h i hi x2 x (by omega) (ih (x + 1) m (by omega) (by omega)) 8 0 9 (by omega) (by omega)⟩
theorem aj_yclr {post : Int32 → SY → Prop} (h C S : Nat → Int32) (i : Nat) (hi : i < 4) (x2 : Int32) (hp : post x2 (aj_clr h i 64, C, S)) : ∀ d m n, m + d = 64 → d < n → wY_clear_30 post (nI i) x2 n (nI (64 * i + m)) (aj_clr h i m) C S := by
  have e64 : (64 * nI i) + 64 = nI (64 * i + 64) := by
    rw [show (64 : Int32) = nI 64 from rfl, pk_mul, nI_add]
  intro d
  induction d with
  | zero =>
    intro m n hm hn
    obtain ⟨w, rfl⟩ : ∃ w, n = w + 1 := ⟨n - 1, by omega⟩
    refine br_t (by rw [e64]; exact nI_le (by omega) (by omega)) ?_
    rw [show m = 64 from by omega]
    exact hp
  | succ d ih =>
    intro m n hm hn
    obtain ⟨w, rfl⟩ : ∃ w, n = w + 1 := ⟨n - 1, by omega⟩
    refine br_f (by rw [e64]; exact nI_ge (by omega) (by omega)) ?_
    refine ⟨vp_in_nI (by omega) (by omega), ?_⟩
    rw [nI_clamp (by omega), aj_clrs]
    exact nm_e (nm_r (nI_1 (64 * i + m)) (ih (m + 1) w (by omega) (by omega)))
theorem i_vc_clear {k : Nat} {u : SX} {v : SY} (I : i_Rel k u v) (hk : k + 4 ≤ 2048) (v1 : Int32) : wpX_clear (fun r u' => wpY_clear (fun r' v' => r' = r ∧ i_Rel (k + 4) u' v') v v1) u v1 := by
  obtain ⟨C, S, rfl, hC⟩ := I
  have h1 := pk_ix v1 (n := 4) (by decide)
  rw [← or_assoc] at h1
  rcases h1 with h1 | ⟨i, hi, rfl⟩
  · unfold wpX_clear wpY_clear
    dsimp only
    refine aj_out h1 (br_t rfl ?_)
    exact aj_outr h1 ⟨rfl, C, S, rfl, hC⟩
  · obtain ⟨hCi, hC10⟩ := hC i hi
    unfold wpX_clear wpY_clear
    dsimp only
    refine aj_inn 4 hi (by decide) ?_
    refine br_f (by decide) ?_
    refine aj_fit u i none none hi True.intro True.intro ?_
    refine ⟨9, ?_⟩
    have hx := fun (post : Int32 → SX → Prop) (x2 : Int32) (hp : post x2 (aj_clr u i 64)) => aj_xclr19 u i hi x2 hp 8 0 9 (by omega) (by omega)
    rw [Nat.mul_zero, aj_clr0, nI_0] at hx
    refine hx _ _ ?_
    refine aj_innr 3 (by omega) (by decide) ?_
    refine ⟨vp_in_nI hi (by omega), ?_⟩
    rw [nI_clamp (by omega)]
    refine nm_e ⟨vp_in_nI hi (by omega), nm_e ?_⟩
    refine nm_r (e' := nI (64 * i + 0)) (by rw [show (64 : Int32) = nI 64 from rfl, pk_mul]; rfl) ⟨65, ?_⟩
    have hy := fun (post : Int32 → SY → Prop) (C : Nat → Int32) (x2 : Int32) (hp : post x2 (aj_clr u i 64, C, S)) => aj_yclr u C S i hi x2 hp 64 0 65 (by omega) (by omega)
    rw [aj_clr0] at hy
    refine hy _ _ _ ⟨hCi, _, _, rfl, fun j hj => ?_⟩
    by_cases e : j = i
    · subst e
      have ez : aj_FT (aj_clr u j 64) j none none = 0 := by
        rw [aj_FT_nn]
        exact aj_sm_z (fun x hx => aj_sm_z (fun y hy => if_pos (if_pos (by omega))))
      rw [pk_us, ez]
      exact ⟨rfl, by omega⟩
    · rw [pk_un e, aj_FT_same (h := u) (fun x y hx hy => if_neg (by omega))]
      exact hC j hj
theorem i_vc_rows {k : Nat} {u : SX} {v : SY} (I : i_Rel k u v) (hk : k + 4 ≤ 2048) (v1 : Int32) : wpX_rows (fun r => wpY_rows (fun r' => r' = r ∧ i_Rel (k + 4) u v) v v1) u v1 := by
  obtain ⟨C, S, rfl, hC⟩ := I
  have h1 := pk_ix v1 (n := 4) (by decide)
  rw [← or_assoc] at h1
  rcases h1 with h1 | ⟨i, hi, rfl⟩
  · unfold wpX_rows wpY_rows
    dsimp only
    refine aj_out h1 (br_t rfl ?_)
    exact aj_outr h1 ⟨rfl, C, S, rfl, hC⟩
  · obtain ⟨hCi, hC10⟩ := hC i hi
    unfold wpX_rows wpY_rows
    dsimp only
    refine aj_inn 4 hi (by decide) ?_
    refine br_f (by decide) ?_
    refine aj_fit u i none none hi True.intro True.intro ?_
    refine aj_innr 3 (by omega) (by decide) ?_
    refine ⟨vp_in_nI hi (by omega), ?_, C, S, rfl, hC⟩
    rw [nI_clamp (by omega)]
    exact hCi
end
section
theorem aj_e2 {i x y a b : Nat} (hy : y < 8) (hb : b < 8) : aj_e (64 * i + 8 * x + y) ((i * 8 + a) * 8 + b) = aj_e x a * aj_e y b := by
  by_cases ex : x = a
  · by_cases ey : y = b
    · rw [aj_e_t ex, aj_e_t ey, aj_e_t (by omega)]
    · rw [aj_e_f ey, aj_e_f (by omega), Nat.mul_zero]
  · rw [aj_e_f ex, aj_e_f (by omega), Nat.zero_mul]
theorem aj_MV_count (h : Nat → Int32) : aj_MV h none none none none none = aj_sm (aj_A h) 32768 := by
  rw [aj_MV_eq]
  refine aj_cg (fun n _ => ?_)
  show 1 * aj_A h n = aj_A h n
  exact Nat.one_mul _
theorem i_vc_count {k : Nat} {u : SX} {v : SY} (I : i_Rel k u v) (hk : k + 4 ≤ 2048) : wpX_count (fun r => wpY_count (fun r' => r' = r ∧ i_Rel (k + 4) u v) v) u := by
  have I' := I
  obtain ⟨C, S, rfl, hC⟩ := I
  unfold wpX_count
  refine aj_mat u none none none none none True.intro True.intro True.intro True.intro True.intro ?_
  refine aj_ycount ⟨?_, I'⟩
  rw [aj_MV_count]
theorem aj_CW0 (h : Nat → Int32) (a b : Nat) (hb : b < 8) : aj_MV h (some a) (some b) none none none = aj_CW h 0 ((0 * 8 + a) * 8 + b) := by
  rw [aj_MV_eq]
  refine aj_cg (fun n _ => ?_)
  show (aj_e (n / 4096 % 8) a * aj_e (n / 512 % 8) b * 1 * 1 * 1) * aj_A h n = aj_A h n * aj_e (64 * 0 + 8 * (n / 4096 % 8) + n / 512 % 8) ((0 * 8 + a) * 8 + b)
  rw [aj_e2 (Nat.mod_lt _ (by decide)) hb]
  simp only [Nat.mul_one]
  exact Nat.mul_comm _ _
theorem aj_CW1 (h : Nat → Int32) (a b : Nat) (hb : b < 8) : aj_MV h none (some a) (some b) none none = aj_CW h 1 ((1 * 8 + a) * 8 + b) := by
  rw [aj_MV_eq]
  refine aj_cg (fun n _ => ?_)
  show (1 * aj_e (n / 512 % 8) a * aj_e (n / 64 % 8) b * 1 * 1) * aj_A h n = aj_A h n * aj_e (64 * 1 + 8 * (n / 512 % 8) + n / 64 % 8) ((1 * 8 + a) * 8 + b)
  rw [aj_e2 (Nat.mod_lt _ (by decide)) hb]
  simp only [Nat.mul_one, Nat.one_mul]
  exact Nat.mul_comm _ _
theorem aj_CW2 (h : Nat → Int32) (a b : Nat) (hb : b < 8) : aj_MV h none none (some a) (some b) none = aj_CW h 2 ((2 * 8 + a) * 8 + b) := by
  rw [aj_MV_eq]
  refine aj_cg (fun n _ => ?_)
  show (1 * 1 * aj_e (n / 64 % 8) a * aj_e (n / 8 % 8) b * 1) * aj_A h n = aj_A h n * aj_e (64 * 2 + 8 * (n / 64 % 8) + n / 8 % 8) ((2 * 8 + a) * 8 + b)
  rw [aj_e2 (Nat.mod_lt _ (by decide)) hb]
  simp only [Nat.mul_one, Nat.one_mul]
  exact Nat.mul_comm _ _
theorem aj_CW3 (h : Nat → Int32) (a b : Nat) (hb : b < 8) : aj_MV h none (some a) none none (some b) = aj_CW h 3 ((3 * 8 + a) * 8 + b) := by
  rw [aj_MV_eq]
  refine aj_cg (fun n _ => ?_)
  show (1 * aj_e (n / 512 % 8) a * 1 * 1 * aj_e (n % 8) b) * aj_A h n = aj_A h n * aj_e (64 * 3 + 8 * (n / 512 % 8) + n / 1 % 8) ((3 * 8 + a) * 8 + b)
  rw [Nat.div_one, aj_e2 (Nat.mod_lt _ (by decide)) hb]
  simp only [Nat.mul_one, Nat.one_mul]
  exact Nat.mul_comm _ _
theorem aj_CW_le (h : Nat → Int32) (i c : Nat) : aj_CW h i c ≤ 32768 := aj_sm_bd (fun n _ => aj_mul01 (aj_A_le _ _) (aj_e_le _ _))
theorem aj_xw {post : Int32 → Prop} (h : Nat → Int32) (i a b : Nat) (hi : i < 4) (ha : a < 8) (hb : b < 8) (hp : post (nI (aj_CW h i ((i * 8 + a) * 8 + b)))) : wpX_weight post h (nI i) (nI a) (nI b) := by
  have hj' : i = 0 ∨ i = 1 ∨ i = 2 ∨ i = 3 := by omega
  unfold wpX_weight
  refine aj_xrow1 hi ha hb ?_
  refine br_f (by decide) ?_
  refine br_f (nI_pos (by omega)) ?_
  rcases hj' with rfl | rfl | rfl | rfl
  · rw [← aj_CW0 h a b hb] at hp
    exact br_f (by decide) (br_t (by decide) (aj_mat h (some a) (some b) none none none ha hb True.intro True.intro True.intro hp))
  · rw [← aj_CW1 h a b hb] at hp
    exact br_f (by decide) (br_f (by decide) (br_t (by decide) (aj_mat h none (some a) (some b) none none True.intro ha hb True.intro True.intro hp)))
  · rw [← aj_CW2 h a b hb] at hp
    exact br_f (by decide) (br_f (by decide) (br_f (by decide) (br_t (by decide) (aj_mat h none none (some a) (some b) none True.intro True.intro ha hb True.intro hp))))
  · rw [← aj_CW3 h a b hb] at hp
    exact br_t (by decide) (aj_mat h none (some a) none none (some b) True.intro ha True.intro True.intro hb hp)
theorem i_vc_weight {k : Nat} {u : SX} {v : SY} (I : i_Rel k u v) (hk : k + 4 ≤ 2048) (v1 : Int32) (v2 : Int32) (v3 : Int32) : wpX_weight (fun r => wpY_weight (fun r' => r' = r ∧ i_Rel (k + 4) u v) v v1 v2 v3) u v1 v2 v3 := by
  have I' := I
  obtain ⟨C, S, rfl, hC⟩ := I
  rcases aj_rowc v1 v2 v3 with ⟨i, a, b, hi, ha, hb, rfl, rfl, rfl⟩ | ⟨hX, hY⟩
  · refine aj_xw u i a b hi ha hb ?_
    unfold wpY_weight
    dsimp only
    refine aj_yrow1 hi ha hb ?_
    refine br_f (by decide) ?_
    rw [aj_cellY]
    exact aj_ycw i _ hi (by omega) ⟨rfl, I'⟩
  · unfold wpX_weight wpY_weight
    dsimp only
    refine hX _ (br_t rfl ?_)
    exact hY _ _ _ _ (br_t rfl ⟨rfl, I'⟩)
theorem aj_undo {u : Nat → Int32} {c : Nat} (z : u c = 0) : upd (upd u c (vp_nar .boolean 1)) c (vp_nar .boolean 0) = u := by
  funext j
  by_cases e : j = c
  · subst e
    rw [pk_us, z]
    rfl
  · rw [pk_un e, pk_un e]
theorem i_vc_gain {k : Nat} {u : SX} {v : SY} (I : i_Rel k u v) (hk : k + 4 ≤ 2048) (v1 : Int32) (v2 : Int32) (v3 : Int32) : wpX_gain (fun r u' => wpY_gain (fun r' v' => r' = r ∧ i_Rel (k + 4) u' v') v v1 v2 v3) u v1 v2 v3 := by
  have I' := I
  obtain ⟨C, S, rfl, hC⟩ := I
  rcases aj_rowc v1 v2 v3 with ⟨i, a, b, hi, ha, hb, rfl, rfl, rfl⟩ | ⟨hX, hY⟩
  · have hc : (i * 8 + a) * 8 + b < 256 := by omega
    unfold wpX_gain wpY_gain
    dsimp only
    refine aj_xrow1 hi ha hb ?_
    refine br_f (by decide) ?_
    refine aj_cell i a b ?_
    refine ⟨vp_in_nI hc (by omega), ?_⟩
    rw [nI_clamp (by omega)]
    by_cases z : u ((i * 8 + a) * 8 + b) = 0
    · refine br_t z ⟨vp_in_nI hc (by omega), nm_e ?_⟩
      refine aj_xw _ i a b hi ha hb ?_
      refine ⟨vp_in_nI hc (by omega), nm_e ?_⟩
      refine aj_yrow1 hi ha hb ?_
      refine br_f (by decide) ?_
      refine nm_r (aj_cellY i a b) ⟨vp_in_nI hc (by omega), ?_⟩
      rw [nI_clamp (by omega)]
      refine br_t z ⟨vp_in_nI hc (by omega), nm_e ?_⟩
      refine aj_ycw i _ hi (by omega) ?_
      refine ⟨vp_in_nI hc (by omega), nm_e ⟨rfl, ?_⟩⟩
      rw [aj_undo z]
      exact I'
    · refine br_f z ?_
      refine aj_yrow1 hi ha hb ?_
      refine br_f (by decide) ?_
      refine nm_r (aj_cellY i a b) ⟨vp_in_nI hc (by omega), ?_⟩
      rw [nI_clamp (by omega)]
      exact br_f z ⟨rfl, I'⟩
  · unfold wpX_gain wpY_gain
    dsimp only
    refine hX _ (br_t rfl ?_)
    exact hY _ _ _ _ (br_t rfl ⟨rfl, I'⟩)
theorem aj_pos0 {w : Nat} (hw : w ≤ 32768) {A B : Prop} (f : w = 0 → A) (g : 0 < w → B) : (nI w ≤ 0 → A) ∧ (¬ nI w ≤ 0 → B) :=
  pk_le w 0 (fun h => f (by omega)) (fun h => g h)
theorem aj_A_ro {R : Nat → Int32} {n i : Nat} (hi : i < 4) (z : R (aj_ro n i) = 0) : aj_A R n = 0 := by
  have hj' : i = 0 ∨ i = 1 ∨ i = 2 ∨ i = 3 := by omega
  unfold aj_A
  rcases hj' with rfl | rfl | rfl | rfl
  · have e : aj_T R 0 (n / 4096 % 8) (n / 512 % 8) = 0 := if_pos (by
      rw [← z]
      refine congrArg R ?_
      show _ = 64 * 0 + 8 * (n / 4096 % 8) + n / 512 % 8
      omega)
    rw [e, Nat.zero_mul, Nat.zero_mul, Nat.zero_mul]
  · have e : aj_T R 1 (n / 512 % 8) (n / 64 % 8) = 0 := if_pos (by
      rw [← z]
      refine congrArg R ?_
      show _ = 64 * 1 + 8 * (n / 512 % 8) + n / 64 % 8
      omega)
    rw [e, Nat.mul_zero, Nat.zero_mul, Nat.zero_mul]
  · have e : aj_T R 2 (n / 64 % 8) (n / 8 % 8) = 0 := if_pos (by
      rw [← z]
      refine congrArg R ?_
      show _ = 64 * 2 + 8 * (n / 64 % 8) + n / 8 % 8
      omega)
    rw [e, Nat.mul_zero, Nat.zero_mul]
  · have e : aj_T R 3 (n / 512 % 8) (n % 8) = 0 := if_pos (by
      rw [← z]
      refine congrArg R ?_
      show _ = 64 * 3 + 8 * (n / 512 % 8) + n / 1 % 8
      omega)
    rw [e, Nat.mul_zero]
theorem aj_CW_z {R : Nat → Int32} {i c : Nat} (hi : i < 4) (z : R c = 0) : aj_CW R i c = 0 := by
  refine aj_sm_z (fun n _ => ?_)
  by_cases e : aj_ro n i = c
  · rw [aj_A_ro hi (by rw [e]; exact z), Nat.zero_mul]
  · rw [aj_e_f e, Nat.mul_zero]
def aj_US (h : Nat → Int32) (i : Nat) : Nat := aj_sm (fun a => aj_sm (fun b => aj_ps (aj_CW h i ((i * 8 + a) * 8 + b))) 8) 8
theorem aj_xus {post : Int32 → Prop} (h : Nat → Int32) (i : Nat) (hi : i < 4) (hp : post (nI (aj_US h i))) : ∃ n, wX_useful_13 post (nI i) h n 0 0 := by
  refine aj_acc0 (fun n x2 x3 => wX_useful_13 post (nI i) h n x2 x3) (fun a => aj_sm (fun b => aj_ps (aj_CW h i ((i * 8 + a) * 8 + b))) 8) 8 post ?_ ?_ 0 ?_
  · intro n a hk
    exact br_t (nI_le (a := 8) (Nat.le_refl _) (by decide)) hk
  · intro n a acc ha hw
    refine br_f (nI_ge (b := 8) ha (by decide)) ?_
    refine aj_acc0 (fun m x2 x4 => wX_useful_22 post (wX_useful_13 post (nI i) h n) (nI i) (nI a) h m x2 x4) (fun b => aj_ps (aj_CW h i ((i * 8 + a) * 8 + b))) 8 (fun z => wX_useful_13 post (nI i) h n z (nI (a + 1))) ?_ ?_ acc hw
    · intro m z hk
      exact br_t (nI_le (a := 8) (Nat.le_refl _) (by decide)) (nm_r (nI_1 a) hk)
    · intro m b z hb hw2
      refine br_f (nI_ge (b := 8) hb (by decide)) ?_
      refine aj_xw h i a b hi ha hb ?_
      refine aj_pos0 (aj_CW_le _ _ _) (fun e => ?_) (fun e => ?_)
      · rw [e, aj_ps_0, nI_0, Int32.add_zero] at hw2
        exact nm_r (nI_1 b) hw2
      · rw [aj_ps_p e] at hw2
        exact nm_e (nm_r (nI_1 b) hw2)
  · rw [Int32.zero_add]
    exact hp
theorem aj_yus {post : Int32 → Prop} {R C S : Nat → Int32} (i : Nat) (hi : i < 4) (hp : post (nI (aj_US R i))) : ∃ n, wY_useful_18 post (nI i) R C S n 0 (nI (64 * i)) := by
  have e64 : (64 * nI i) + 64 = nI (64 * i + 64) := by
    rw [show (64 : Int32) = nI 64 from rfl, pk_mul, nI_add]
  refine ⟨65, ?_⟩
  refine aj_acc (fun n x2 x3 => wY_useful_18 post (nI i) R C S n x2 x3) (fun c => aj_ps (aj_CW R (c / 64) c)) (64 * i + 64) post ?_ ?_ 64 (64 * i) 65 0 (by omega) (by omega) ?_
  · intro n a hk
    exact br_t (by rw [e64]; exact nI_le (Nat.le_refl _) (by omega)) hk
  · intro n c acc hc hw
    refine br_f (by rw [e64]; exact nI_ge hc (by omega)) ?_
    refine ⟨vp_in_nI (by omega) (by omega), ?_⟩
    rw [nI_clamp (by omega)]
    by_cases z : R c = 0
    · refine br_t z ?_
      rw [aj_CW_z (by omega) z, aj_ps_0, nI_0, Int32.add_zero] at hw
      exact nm_r (nI_1 c) hw
    · refine br_f z ?_
      refine aj_ycw (c / 64) c (by omega) rfl ?_
      refine aj_pos0 (aj_CW_le _ _ _) (fun e => ?_) (fun e => ?_)
      · rw [e, aj_ps_0, nI_0, Int32.add_zero] at hw
        exact nm_r (nI_1 c) hw
      · rw [aj_ps_p e] at hw
        exact nm_e (nm_r (nI_1 c) hw)
  · rw [Int32.zero_add]
    have e : aj_sm (fun k => aj_ps (aj_CW R ((64 * i + k) / 64) (64 * i + k))) 64 = aj_US R i := by
      have e1 := aj_sm_blk (fun k => aj_ps (aj_CW R ((64 * i + k) / 64) (64 * i + k))) 8 8
      rw [show 8 * 8 = 64 from rfl] at e1
      rw [e1]
      unfold aj_US
      refine aj_cg (fun a ha => aj_cg (fun b hb => ?_))
      rw [show (64 * i + (a * 8 + b)) / 64 = i from by omega, show 64 * i + (a * 8 + b) = (i * 8 + a) * 8 + b from by omega]
    rw [e]
    exact hp
theorem i_vc_useful {k : Nat} {u : SX} {v : SY} (I : i_Rel k u v) (hk : k + 4 ≤ 2048) (v1 : Int32) : wpX_useful (fun r => wpY_useful (fun r' => r' = r ∧ i_Rel (k + 4) u v) v v1) u v1 := by
  have I' := I
  obtain ⟨C, S, rfl, hC⟩ := I
  have h1 := pk_ix v1 (n := 4) (by decide)
  rw [← or_assoc] at h1
  rcases h1 with h1 | ⟨i, hi, rfl⟩
  · unfold wpX_useful wpY_useful
    dsimp only
    refine aj_out h1 (br_t rfl ?_)
    exact aj_outr h1 ⟨rfl, I'⟩
  · unfold wpX_useful wpY_useful
    dsimp only
    refine aj_inn 4 hi (by decide) ?_
    refine br_f (by decide) ?_
    refine aj_xus u i hi ?_
    refine aj_innr 3 (by omega) (by decide) ?_
    refine nm_r (e' := nI (64 * i)) (by rw [show (64 : Int32) = nI 64 from rfl, pk_mul]) ?_
    exact aj_yus i hi ⟨rfl, I'⟩
end
section
def aj_col (c j v : Nat) : Option Nat := if c = j then some v else none
theorem aj_col_ok (c j : Nat) {v : Nat} (hv : v < 8) : aj_ok (aj_col c j v) := by
  unfold aj_col
  split
  · exact hv
  · exact True.intro
theorem aj_cpk (P : Int32 → Prop) (c j v : Nat) (hc : c < 5) (hj : j < 5) (hP : P (aj_O (aj_col c j v))) {y : Int32} (ey : y = nI j := by rfl) : (nI c = y → P (nI v)) ∧ (¬ nI c = y → P (-1)) := by
  refine pk_eq c j (fun e => ?_) (fun e => ?_) rfl ey
  · rw [show aj_col c j v = some v from if_pos e] at hP
    exact hP
  · rw [show aj_col c j v = none from if_neg e] at hP
    exact hP
theorem aj_CV_eq (h : Nat → Int32) (c v : Nat) (hc : c < 5) : aj_MV h (aj_col c 0 v) (aj_col c 1 v) (aj_col c 2 v) (aj_col c 3 v) (aj_col c 4 v) = aj_CV h c v := by
  have hj' : c = 0 ∨ c = 1 ∨ c = 2 ∨ c = 3 ∨ c = 4 := by omega
  rw [aj_MV_eq]
  refine aj_cg (fun n _ => ?_)
  rcases hj' with rfl | rfl | rfl | rfl | rfl
  · show (aj_e (n / 4096 % 8) v * 1 * 1 * 1 * 1) * aj_A h n = aj_A h n * aj_e (n / 4096 % 8) v
    simp only [Nat.mul_one]
    exact Nat.mul_comm _ _
  · show (1 * aj_e (n / 512 % 8) v * 1 * 1 * 1) * aj_A h n = aj_A h n * aj_e (n / 512 % 8) v
    simp only [Nat.mul_one, Nat.one_mul]
    exact Nat.mul_comm _ _
  · show (1 * 1 * aj_e (n / 64 % 8) v * 1 * 1) * aj_A h n = aj_A h n * aj_e (n / 64 % 8) v
    simp only [Nat.mul_one, Nat.one_mul]
    exact Nat.mul_comm _ _
  · show (1 * 1 * 1 * aj_e (n / 8 % 8) v * 1) * aj_A h n = aj_A h n * aj_e (n / 8 % 8) v
    simp only [Nat.mul_one, Nat.one_mul]
    exact Nat.mul_comm _ _
  · show (1 * 1 * 1 * 1 * aj_e (n % 8) v) * aj_A h n = aj_A h n * aj_e (n / 1 % 8) v
    simp only [Nat.mul_one, Nat.one_mul, Nat.div_one]
    exact Nat.mul_comm _ _
theorem aj_xwith {post : Int32 → Prop} (h : Nat → Int32) (c v : Nat) (hc : c < 5) (hv : v < 8) (hp : post (nI (aj_CV h c v))) {p0 : Int32} (e0 : p0 = nI c := by rfl) : wpX_with post h p0 (nI v) := by
  subst e0
  rw [← aj_CV_eq h c v hc] at hp
  unfold wpX_with
  refine aj_inn 5 hc (by decide) ?_
  refine br_f (by decide) ?_
  refine aj_inn 8 hv (by decide) ?_
  refine br_f (by decide) ?_
  refine aj_cpk (fun r => wX_with_25 post (nI c) (nI v) r h) c 0 v hc (by omega) ?_
  refine aj_cpk (fun r => wX_with_36 post (nI c) (nI v) (aj_O (aj_col c 0 v)) r h) c 1 v hc (by omega) ?_
  refine aj_cpk (fun r => wX_with_48 post (nI c) (nI v) (aj_O (aj_col c 0 v)) (aj_O (aj_col c 1 v)) r h) c 2 v hc (by omega) ?_
  refine aj_cpk (fun r => wX_with_60 post (nI c) (nI v) (aj_O (aj_col c 0 v)) (aj_O (aj_col c 1 v)) (aj_O (aj_col c 2 v)) r h) c 3 v hc (by omega) ?_
  refine aj_cpk (fun r => wX_with_72 post (aj_O (aj_col c 0 v)) (aj_O (aj_col c 1 v)) (aj_O (aj_col c 2 v)) (aj_O (aj_col c 3 v)) r h) c 4 v hc (by omega) ?_
  exact aj_mat h (aj_col c 0 v) (aj_col c 1 v) (aj_col c 2 v) (aj_col c 3 v) (aj_col c 4 v) (aj_col_ok _ _ hv) (aj_col_ok _ _ hv) (aj_col_ok _ _ hv) (aj_col_ok _ _ hv) (aj_col_ok _ _ hv) hp
theorem i_vc_with {k : Nat} {u : SX} {v : SY} (I : i_Rel k u v) (hk : k + 4 ≤ 2048) (v1 : Int32) (v2 : Int32) : wpX_with (fun r => wpY_with (fun r' => r' = r ∧ i_Rel (k + 4) u v) v v1 v2) u v1 v2 := by
  have I' := I
  obtain ⟨C, S, rfl, hC⟩ := I
  have h1 := pk_ix v1 (n := 5) (by decide)
  have h2 := pk_ix v2 (n := 8) (by decide)
  rw [← or_assoc] at h1 h2
  rcases h1 with h1 | ⟨c, hc, rfl⟩
  · unfold wpX_with wpY_with
    dsimp only
    refine aj_out h1 (br_t rfl ?_)
    exact aj_outl h1 ⟨rfl, I'⟩
  rcases h2 with h2 | ⟨w, hw, rfl⟩
  · unfold wpX_with wpY_with
    dsimp only
    refine aj_inn 5 hc (by decide) ?_
    refine br_f (by decide) ?_
    refine aj_out h2 (br_t rfl ?_)
    refine aj_innl 4 (by omega) (by decide) ?_
    unfold wpY_isValue
    dsimp only
    exact aj_outl h2 (br_t rfl ⟨rfl, I'⟩)
  · refine aj_xwith u c w hc hw ?_
    unfold wpY_with
    dsimp only
    refine aj_innl 4 (by omega) (by decide) ?_
    unfold wpY_isValue
    dsimp only
    refine aj_innl 7 (by omega) (by decide) ?_
    refine br_f (by decide) ?_
    exact aj_ycv c w hc hw ⟨rfl, I'⟩
theorem aj_CV_le (h : Nat → Int32) (c v : Nat) : aj_CV h c v ≤ 32768 := aj_sm_bd (fun n _ => aj_mul01 (aj_A_le _ _) (aj_e_le _ _))
theorem aj_xvs {post : Int32 → Prop} (h : Nat → Int32) (c : Nat) (hc : c < 5) (hp : post (nI (aj_sm (fun v => aj_ps (aj_CV h c v)) 8))) : ∃ n, wX_values_13 post (nI c) h n 0 0 := by
  refine aj_acc0 (fun n x2 x3 => wX_values_13 post (nI c) h n x2 x3) (fun v => aj_ps (aj_CV h c v)) 8 post ?_ ?_ 0 ?_
  · intro n a hk
    exact br_t (nI_le (a := 8) (Nat.le_refl _) (by decide)) hk
  · intro n v acc hv hw
    refine br_f (nI_ge (b := 8) hv (by decide)) ?_
    refine aj_xwith h c v hc hv ?_
    refine aj_pos0 (aj_CV_le _ _ _) (fun e => ?_) (fun e => ?_)
    · rw [e, aj_ps_0, nI_0, Int32.add_zero] at hw
      exact nm_r (nI_1 v) hw
    · rw [aj_ps_p e] at hw
      exact nm_e (nm_r (nI_1 v) hw)
  · rw [Int32.zero_add]
    exact hp
theorem aj_yvs {post : Int32 → Prop} {R C S : Nat → Int32} (c : Nat) (hc : c < 5) (hp : post (nI (aj_sm (fun v => aj_ps (aj_CV R c v)) 8))) : ∃ n, wY_values_15 post (nI c) R C S n 0 0 := by
  refine aj_acc0 (fun n x2 x3 => wY_values_15 post (nI c) R C S n x2 x3) (fun v => aj_ps (aj_CV R c v)) 8 post ?_ ?_ 0 ?_
  · intro n a hk
    exact br_t (nI_le (a := 8) (Nat.le_refl _) (by decide)) hk
  · intro n v acc hv hw
    refine br_f (nI_ge (b := 8) hv (by decide)) ?_
    refine aj_ycv c v hc hv ?_
    refine aj_pos0 (aj_CV_le _ _ _) (fun e => ?_) (fun e => ?_)
    · rw [e, aj_ps_0, nI_0, Int32.add_zero] at hw
      exact nm_r (nI_1 v) hw
    · rw [aj_ps_p e] at hw
      exact nm_e (nm_r (nI_1 v) hw)
  · rw [Int32.zero_add]
    exact hp
theorem i_vc_values {k : Nat} {u : SX} {v : SY} (I : i_Rel k u v) (hk : k + 4 ≤ 2048) (v1 : Int32) : wpX_values (fun r => wpY_values (fun r' => r' = r ∧ i_Rel (k + 4) u v) v v1) u v1 := by
  have I' := I
  obtain ⟨C, S, rfl, hC⟩ := I
  have h1 := pk_ix v1 (n := 5) (by decide)
  rw [← or_assoc] at h1
  rcases h1 with h1 | ⟨c, hc, rfl⟩
  · unfold wpX_values wpY_values
    dsimp only
    refine aj_out h1 (br_t rfl ?_)
    exact aj_outr h1 ⟨rfl, I'⟩
  · unfold wpX_values wpY_values
    dsimp only
    refine aj_inn 5 hc (by decide) ?_
    refine br_f (by decide) ?_
    refine aj_xvs u c hc ?_
    refine aj_innr 4 (by omega) (by decide) ?_
    exact aj_yvs c hc ⟨rfl, I'⟩
theorem aj_wt (h : Nat → Int32) (c : Nat) : aj_sm (fun v => v * aj_CV h c v) 8 = aj_sm (fun n => aj_A h n * aj_vi n c) 32768 := by
  unfold aj_CV
  rw [aj_cg (g := fun v => aj_sm (fun n => v * (aj_A h n * aj_e (aj_vi n c) v)) 32768) (fun v _ => by rw [aj_sm_mul])]
  rw [aj_sm_swap]
  refine aj_cg (fun n _ => ?_)
  rw [aj_sm_one (v := aj_vi n c) (aj_vi_lt n c) (fun v _ hn => by rw [aj_e_f (Ne.symm hn), Nat.mul_zero, Nat.mul_zero])]
  rw [aj_e_t rfl, Nat.mul_one]
  exact Nat.mul_comm _ _
theorem aj_sumE (h : Nat → Int32) : aj_sm (fun v => v * (aj_CV h 3 v + aj_CV h 4 v)) 8 = aj_sm (fun n => aj_A h n * (aj_vi n 3 + aj_vi n 4)) 32768 := by
  rw [aj_cg (g := fun v => v * aj_CV h 3 v + v * aj_CV h 4 v) (fun v _ => Nat.mul_add _ _ _), aj_sm_add, aj_wt, aj_wt, ← aj_sm_add]
  exact aj_cg (fun n _ => (Nat.mul_add _ _ _).symm)
theorem i_vc_sum {k : Nat} {u : SX} {v : SY} (I : i_Rel k u v) (hk : k + 4 ≤ 2048) : wpX_sum (fun r => wpY_sum (fun r' => r' = r ∧ i_Rel (k + 4) u v) v) u := by
  have I' := I
  obtain ⟨C, S, rfl, hC⟩ := I
  unfold wpX_sum
  refine aj_acc0 (fun n x1 x2 => wX_sum_4 (fun r => wpY_sum (fun r' => r' = r ∧ i_Rel (k + 4) u (u, C, S)) (u, C, S)) u n x1 x2) (fun v => v * (aj_CV u 3 v + aj_CV u 4 v)) 8 (fun r => wpY_sum (fun r' => r' = r ∧ i_Rel (k + 4) u (u, C, S)) (u, C, S)) ?_ ?_ 0 ?_
  · intro n a hk
    exact br_t (nI_le (a := 8) (Nat.le_refl _) (by decide)) hk
  · intro n v acc hv hw
    refine br_f (nI_ge (b := 8) hv (by decide)) ?_
    refine aj_xwith u 3 v (by omega) hv ?_
    refine aj_xwith u 4 v (by omega) hv ?_
    exact nm_r (by rw [nI_add, pk_mul]) (nm_r (nI_1 v) hw)
  · rw [Int32.zero_add, aj_sumE]
    exact aj_ysum ⟨rfl, I'⟩
end
section
def aj_rv : Nat → Nat → Nat
  | 0, _ => 0
  | c + 1, e => aj_rv c e * 8 + e / 8 ^ c % 8
theorem aj_e3 {x y a b : Nat} (hy : y < 8) (hb : b < 8) : aj_e x a * aj_e y b = aj_e (x * 8 + y) (a * 8 + b) := by
  by_cases ex : x = a
  · by_cases ey : y = b
    · rw [aj_e_t ex, aj_e_t ey, aj_e_t (by omega)]
    · rw [aj_e_f ey, Nat.mul_zero, aj_e_f (a := x * 8 + y) (b := a * 8 + b) (by omega)]
  · rw [aj_e_f ex, Nat.zero_mul, aj_e_f (a := x * 8 + y) (b := a * 8 + b) (by omega)]
theorem aj_m8 (x : Nat) : x % 8 < 8 := Nat.mod_lt _ (by decide)
theorem aj_AV_eq (h : Nat → Int32) (c e : Nat) (hc : c < 5) : aj_AV h c e = aj_sm (fun n => aj_e (n / 8 ^ (4 - c)) (aj_rv (c + 1) e) * aj_A h n) 32768 := by
  have hj' : c = 0 ∨ c = 1 ∨ c = 2 ∨ c = 3 ∨ c = 4 := by omega
  unfold aj_AV
  rw [aj_MV_eq]
  refine aj_cg (fun n hn => ?_)
  refine congrArg (fun z => z * aj_A h n) ?_
  rcases hj' with rfl | rfl | rfl | rfl | rfl
  · show aj_e (n / 4096 % 8) (e / 8 ^ 0 % 8) * 1 * 1 * 1 * 1 = aj_e (n / 4096) (0 * 8 + e / 8 ^ 0 % 8)
    simp only [Nat.mul_one]
    rw [Nat.zero_mul, Nat.zero_add, show n / 4096 % 8 = n / 4096 from by omega]
  · show aj_e (n / 4096 % 8) (e / 8 ^ 0 % 8) * aj_e (n / 512 % 8) (e / 8 ^ 1 % 8) * 1 * 1 * 1 = aj_e (n / 512) ((0 * 8 + e / 8 ^ 0 % 8) * 8 + e / 8 ^ 1 % 8)
    simp only [Nat.mul_one]
    rw [Nat.zero_mul, Nat.zero_add, aj_e3 (aj_m8 _) (aj_m8 _), show n / 4096 % 8 * 8 + n / 512 % 8 = n / 512 from by omega]
  · show aj_e (n / 4096 % 8) (e / 8 ^ 0 % 8) * aj_e (n / 512 % 8) (e / 8 ^ 1 % 8) * aj_e (n / 64 % 8) (e / 8 ^ 2 % 8) * 1 * 1 = aj_e (n / 64) (((0 * 8 + e / 8 ^ 0 % 8) * 8 + e / 8 ^ 1 % 8) * 8 + e / 8 ^ 2 % 8)
    simp only [Nat.mul_one]
    rw [Nat.zero_mul, Nat.zero_add, aj_e3 (aj_m8 _) (aj_m8 _), aj_e3 (aj_m8 _) (aj_m8 _), show (n / 4096 % 8 * 8 + n / 512 % 8) * 8 + n / 64 % 8 = n / 64 from by omega]
  · show aj_e (n / 4096 % 8) (e / 8 ^ 0 % 8) * aj_e (n / 512 % 8) (e / 8 ^ 1 % 8) * aj_e (n / 64 % 8) (e / 8 ^ 2 % 8) * aj_e (n / 8 % 8) (e / 8 ^ 3 % 8) * 1 = aj_e (n / 8) ((((0 * 8 + e / 8 ^ 0 % 8) * 8 + e / 8 ^ 1 % 8) * 8 + e / 8 ^ 2 % 8) * 8 + e / 8 ^ 3 % 8)
    simp only [Nat.mul_one]
    rw [Nat.zero_mul, Nat.zero_add, aj_e3 (aj_m8 _) (aj_m8 _), aj_e3 (aj_m8 _) (aj_m8 _), aj_e3 (aj_m8 _) (aj_m8 _), show ((n / 4096 % 8 * 8 + n / 512 % 8) * 8 + n / 64 % 8) * 8 + n / 8 % 8 = n / 8 from by omega]
  · show aj_e (n / 4096 % 8) (e / 8 ^ 0 % 8) * aj_e (n / 512 % 8) (e / 8 ^ 1 % 8) * aj_e (n / 64 % 8) (e / 8 ^ 2 % 8) * aj_e (n / 8 % 8) (e / 8 ^ 3 % 8) * aj_e (n % 8) (e / 8 ^ 4 % 8) = aj_e (n / 1) (((((0 * 8 + e / 8 ^ 0 % 8) * 8 + e / 8 ^ 1 % 8) * 8 + e / 8 ^ 2 % 8) * 8 + e / 8 ^ 3 % 8) * 8 + e / 8 ^ 4 % 8)
    rw [Nat.zero_mul, Nat.zero_add, aj_e3 (aj_m8 _) (aj_m8 _), aj_e3 (aj_m8 _) (aj_m8 _), aj_e3 (aj_m8 _) (aj_m8 _), aj_e3 (aj_m8 _) (aj_m8 _), show (((n / 4096 % 8 * 8 + n / 512 % 8) * 8 + n / 64 % 8) * 8 + n / 8 % 8) * 8 + n % 8 = n from by omega, Nat.div_one n]
theorem aj_rv_lt (c e : Nat) : aj_rv c e < 8 ^ c := by
  induction c with
  | zero => exact Nat.one_pos
  | succ c ih =>
    show aj_rv c e * 8 + e / 8 ^ c % 8 < 8 ^ (c + 1)
    have := aj_m8 (e / 8 ^ c)
    rw [Nat.pow_succ]
    omega
theorem aj_rv_app (c e v : Nat) (hc : c < 5) (hv : v < 8) : aj_rv (c + 1) (e % 8 ^ c + v * 8 ^ c) = aj_rv c e * 8 + v := by
  have hj' : c = 0 ∨ c = 1 ∨ c = 2 ∨ c = 3 ∨ c = 4 := by omega
  rcases hj' with rfl | rfl | rfl | rfl | rfl
  · show 0 * 8 + (e % 1 + v * 1) / 1 % 8 = 0 * 8 + v
    omega
  · show (0 * 8 + (e % 8 + v * 8) / 1 % 8) * 8 + (e % 8 + v * 8) / 8 % 8 = (0 * 8 + e / 1 % 8) * 8 + v
    omega
  · show ((0 * 8 + (e % 64 + v * 64) / 1 % 8) * 8 + (e % 64 + v * 64) / 8 % 8) * 8 + (e % 64 + v * 64) / 64 % 8 = ((0 * 8 + e / 1 % 8) * 8 + e / 8 % 8) * 8 + v
    rw [show (e % 64 + v * 64) / 1 % 8 = e / 1 % 8 from by omega, show (e % 64 + v * 64) / 8 % 8 = e / 8 % 8 from by omega, show (e % 64 + v * 64) / 64 % 8 = v from by omega]
  · show (((0 * 8 + (e % 512 + v * 512) / 1 % 8) * 8 + (e % 512 + v * 512) / 8 % 8) * 8 + (e % 512 + v * 512) / 64 % 8) * 8 + (e % 512 + v * 512) / 512 % 8 = (((0 * 8 + e / 1 % 8) * 8 + e / 8 % 8) * 8 + e / 64 % 8) * 8 + v
    rw [show (e % 512 + v * 512) / 1 % 8 = e / 1 % 8 from by omega, show (e % 512 + v * 512) / 8 % 8 = e / 8 % 8 from by omega, show (e % 512 + v * 512) / 64 % 8 = e / 64 % 8 from by omega, show (e % 512 + v * 512) / 512 % 8 = v from by omega]
  · show ((((0 * 8 + (e % 4096 + v * 4096) / 1 % 8) * 8 + (e % 4096 + v * 4096) / 8 % 8) * 8 + (e % 4096 + v * 4096) / 64 % 8) * 8 + (e % 4096 + v * 4096) / 512 % 8) * 8 + (e % 4096 + v * 4096) / 4096 % 8 = ((((0 * 8 + e / 1 % 8) * 8 + e / 8 % 8) * 8 + e / 64 % 8) * 8 + e / 512 % 8) * 8 + v
    rw [show (e % 4096 + v * 4096) / 1 % 8 = e / 1 % 8 from by omega, show (e % 4096 + v * 4096) / 8 % 8 = e / 8 % 8 from by omega, show (e % 4096 + v * 4096) / 64 % 8 = e / 64 % 8 from by omega, show (e % 4096 + v * 4096) / 512 % 8 = e / 512 % 8 from by omega, show (e % 4096 + v * 4096) / 4096 % 8 = v from by omega]
theorem aj_blk1 (f : Nat → Nat) (a W m : Nat) (hW : 0 < W) (hm : m < a) : aj_sm f (m * W) + aj_sm (fun n => aj_e (n / W) m * f n) (a * W) = aj_sm f ((m + 1) * W) := by
  rw [aj_sm_blk (fun n => aj_e (n / W) m * f n) W a, Nat.succ_mul, aj_sm_split]
  refine congrArg _ ?_
  rw [aj_sm_one (v := m) hm (fun i _ hn => aj_sm_z (fun d hd => by
    rw [show (i * W + d) / W = i from by rw [Nat.mul_comm, Nat.mul_add_div hW, Nat.div_eq_of_lt hd, Nat.add_zero], aj_e_f hn, Nat.zero_mul]))]
  exact aj_cg (fun d hd => by
    rw [show (m * W + d) / W = m from by rw [Nat.mul_comm, Nat.mul_add_div hW, Nat.div_eq_of_lt hd, Nat.add_zero], aj_e_t rfl, Nat.one_mul])
theorem aj_pw (c : Nat) (hc : c < 5) : 8 ^ (c + 1) * 8 ^ (4 - c) = 32768 := by
  rw [← Nat.pow_add, show c + 1 + (4 - c) = 5 from by omega]
theorem aj_step (h : Nat → Int32) (c e v : Nat) (hc : c < 5) (hv : v < 8) : aj_sm (aj_A h) ((aj_rv c e * 8 + v) * 8 ^ (4 - c)) + aj_AV h c (e % 8 ^ c + v * 8 ^ c) = aj_sm (aj_A h) ((aj_rv c e * 8 + v + 1) * 8 ^ (4 - c)) := by
  rw [aj_AV_eq h c _ hc, aj_rv_app c e v hc hv, ← aj_pw c hc]
  refine aj_blk1 (aj_A h) (8 ^ (c + 1)) (8 ^ (4 - c)) _ (Nat.pow_pos (by decide)) ?_
  have := aj_rv_lt c e
  rw [Nat.pow_succ]
  omega
theorem aj_AV_le (h : Nat → Int32) (c e : Nat) : aj_AV h c e ≤ 32768 := aj_MV_le _ _ _ _ _ _
theorem aj_ynum {post : Int32 → Prop} {R C S : Nat → Int32} {e : Nat} (he : e < 32768) (hp : post (nI (aj_rv 5 e))) : wpY_number post (R, C, S) (nI e) := by
  unfold wpY_number
  dsimp only
  have st : ∀ c n, c < 5 → wY_number_4 post (nI e) R C S n (nI (aj_rv (c + 1) e)) (nI (c + 1)) → wY_number_4 post (nI e) R C S (n + 1) (nI (aj_rv c e)) (nI c) := by
    intro c n hc hw
    refine br_f (nI_ge (b := 5) hc (by decide)) ?_
    refine nm_r (e' := nI (aj_rv (c + 1) e)) ?_ (nm_r (nI_1 c) hw)
    rw [aj_digE he hc, show (8 : Int32) = nI 8 from rfl, pk_mul, nI_add, Nat.mul_comm]
    rfl
  refine ⟨6, ?_⟩
  refine st 0 5 (by omega) (st 1 4 (by omega) (st 2 3 (by omega) (st 3 2 (by omega) (st 4 1 (by omega) ?_))))
  exact br_t (nI_le (a := 5) (Nat.le_refl _) (by decide)) hp
theorem aj_AV4 (h : Nat → Int32) (e : Nat) : aj_AV h 4 e = aj_A h (aj_rv 5 e) := by
  rw [aj_AV_eq h 4 e (by omega), aj_sm_one (v := aj_rv 5 e) (aj_rv_lt 5 e) (fun n _ hn => by
    rw [show n / 8 ^ (4 - 4) = n from Nat.div_one n, aj_e_f hn, Nat.zero_mul])]
  rw [show aj_rv 5 e / 8 ^ (4 - 4) = aj_rv 5 e from Nat.div_one _, aj_e_t rfl, Nat.one_mul]
theorem i_vc_has {k : Nat} {u : SX} {v : SY} (I : i_Rel k u v) (hk : k + 4 ≤ 2048) (v1 : Int32) : wpX_has (fun r => wpY_has (fun r' => r' = r ∧ i_Rel (k + 4) u v) v v1) u v1 := by
  have I' := I
  obtain ⟨C, S, rfl, hC⟩ := I
  have h1 := pk_ix v1 (n := 32768) (by decide)
  rw [← or_assoc] at h1
  rcases h1 with h1 | ⟨e, he, rfl⟩
  · unfold wpX_has wpY_has wpY_isCode
    dsimp only
    refine aj_out h1 (br_t rfl ?_)
    exact aj_outl h1 (br_t rfl ⟨rfl, I'⟩)
  · unfold wpX_has wpY_has wpY_isCode
    dsimp only
    refine aj_inn 32768 he (by decide) ?_
    refine br_f (by decide) ?_
    refine aj_agr u 4 e he (by omega) ?_
    rw [aj_AV4]
    rcases aj_A01 u (aj_rv 5 e) with z | z
    · rw [z]
      refine br_t (by decide) ?_
      refine aj_innl 32767 (by omega) (by decide) ?_
      refine br_f (by decide) ?_
      refine aj_ynum he ?_
      refine aj_yans (aj_rv_lt 5 e) ?_
      rw [z]
      exact ⟨rfl, rfl, I'⟩
    · rw [z]
      refine br_f (by decide) ?_
      refine aj_innl 32767 (by omega) (by decide) ?_
      refine br_f (by decide) ?_
      refine aj_ynum he ?_
      refine aj_yans (aj_rv_lt 5 e) ?_
      rw [z]
      exact ⟨rfl, rfl, I'⟩
theorem aj_shlE {v c : Nat} (hv : v < 8) (hc : c < 5) : nI v <<< ((3 * nI c) &&& 31) = nI (v * 8 ^ c) := by
  have hj' : c = 0 ∨ c = 1 ∨ c = 2 ∨ c = 3 ∨ c = 4 := by omega
  rcases hj' with rfl | rfl | rfl | rfl | rfl
  · exact pk_shlN _ 0 (by decide) (by omega)
  · exact pk_shlN _ 3 (by decide) (by omega)
  · exact pk_shlN _ 6 (by decide) (by omega)
  · exact pk_shlN _ 9 (by decide) (by omega)
  · exact pk_shlN _ 12 (by decide) (by omega)
theorem aj_lowE {e c : Nat} (he : e < 32768) (hc : c < 5) : nI e &&& (((1 : Int32) <<< ((3 * nI c) &&& 31)) - 1) = nI (e % 8 ^ c) := by
  have hj' : c = 0 ∨ c = 1 ∨ c = 2 ∨ c = 3 ∨ c = 4 := by omega
  rcases hj' with rfl | rfl | rfl | rfl | rfl
  · exact pk_andN (by omega) 0 (by decide)
  · exact pk_andN (by omega) 3 (by decide)
  · exact pk_andN (by omega) 6 (by decide)
  · exact pk_andN (by omega) 9 (by decide)
  · exact pk_andN (by omega) 12 (by decide)
theorem aj_ext {e c v : Nat} (hc : c < 5) (he : e < 8 ^ c) (hv : v < 8) : e + v * 8 ^ c < 8 ^ (c + 1) := by
  have h1 : v * 8 ^ c ≤ 7 * 8 ^ c := Nat.mul_le_mul_right _ (by omega)
  rw [Nat.pow_succ]
  omega
theorem aj_ple {c : Nat} (hc : c < 5) : 8 ^ (c + 1) ≤ 32768 := Nat.pow_le_pow_right (n := 8) (by decide) (show c + 1 ≤ 5 from hc)
end
section
theorem aj_dsum (h : Nat → Int32) (c e : Nat) (hc : c < 5) : ∀ d, d ≤ 8 → aj_sm (aj_A h) (aj_rv c e * 8 * 8 ^ (4 - c)) + aj_sm (fun v => aj_AV h c (e % 8 ^ c + v * 8 ^ c)) d = aj_sm (aj_A h) ((aj_rv c e * 8 + d) * 8 ^ (4 - c)) := by
  intro d
  induction d with
  | zero => intro _; rfl
  | succ d ih =>
    intro hd
    rw [aj_sm_s, ← Nat.add_assoc, ih (by omega)]
    exact aj_step h c e d hc (by omega)
def aj_RK (h : Nat → Int32) (e c : Nat) : Nat := aj_sm (fun v => aj_AV h c (e % 8 ^ c + v * 8 ^ c)) (e / 8 ^ c % 8)
theorem aj_rks (h : Nat → Int32) (e : Nat) : ∀ c, c ≤ 5 → aj_sm (aj_RK h e) c = aj_sm (aj_A h) (aj_rv c e * 8 ^ (5 - c)) := by
  intro c
  induction c with
  | zero =>
    intro _
    show 0 = aj_sm (aj_A h) (0 * 8 ^ 5)
    rw [Nat.zero_mul]
    rfl
  | succ c ih =>
    intro hc
    rw [aj_sm_s, ih (by omega), show 5 - c = (4 - c) + 1 from by omega, Nat.pow_succ, Nat.mul_comm (8 ^ (4 - c)) 8, ← Nat.mul_assoc]
    rw [show 5 - (c + 1) = 4 - c from by omega]
    exact aj_dsum h c e (by omega) (e / 8 ^ c % 8) (Nat.le_of_lt (aj_m8 _))
theorem aj_xrank {post : Int32 → Prop} (h : Nat → Int32) (e : Nat) (he : e < 32768) (hp : post (nI (aj_sm (aj_A h) (aj_rv 5 e)))) : ∃ n, wX_rank_13 post (nI e) h n 0 0 := by
  refine aj_acc0 (fun n x2 x3 => wX_rank_13 post (nI e) h n x2 x3) (aj_RK h e) 5 post ?_ ?_ 0 ?_
  · intro n a hk
    exact br_t (nI_le (a := 5) (Nat.le_refl _) (by decide)) hk
  · intro n c acc hc hw
    refine br_f (nI_ge (b := 5) hc (by decide)) ?_
    refine nm_r (aj_lowE he hc) ?_
    refine aj_dig c he hc ?_
    have hd := aj_m8 (e / 8 ^ c)
    have hlow : e % 8 ^ c < 8 ^ c := Nat.mod_lt _ (Nat.pow_pos (by decide))
    refine aj_acc0 (fun m x2 x6 => wX_rank_39 post (wX_rank_13 post (nI e) h n) (nI e) (nI c) (nI (e % 8 ^ c)) (nI (e / 8 ^ c % 8)) h m x2 x6) (fun v => aj_AV h c (e % 8 ^ c + v * 8 ^ c)) (e / 8 ^ c % 8) (fun z => wX_rank_13 post (nI e) h n z (nI (c + 1))) ?_ ?_ acc hw
    · intro m z hk
      exact br_t (nI_le (Nat.le_refl _) (by omega)) (nm_r (nI_1 c) hk)
    · intro m v z hv hw2
      refine br_f (nI_ge hv (by omega)) ?_
      rw [aj_shlE (by omega) hc, nI_add]
      have h1 := aj_ext hc hlow (v := v) (by omega)
      have h2 := aj_ple hc
      refine aj_agr h c _ (by omega) hc ?_ (nI_1 c)
      exact nm_e (nm_r (nI_1 v) hw2)
  · rw [Int32.zero_add, aj_rks h e 5 (by omega), show aj_rv 5 e * 8 ^ (5 - 5) = aj_rv 5 e from Nat.mul_one _]
    exact hp
theorem i_vc_rank {k : Nat} {u : SX} {v : SY} (I : i_Rel k u v) (hk : k + 4 ≤ 2048) (v1 : Int32) : wpX_rank (fun r => wpY_rank (fun r' => r' = r ∧ i_Rel (k + 4) u v) v v1) u v1 := by
  have I' := I
  obtain ⟨C, S, rfl, hC⟩ := I
  have h1 := pk_ix v1 (n := 32768) (by decide)
  rw [← or_assoc] at h1
  rcases h1 with h1 | ⟨e, he, rfl⟩
  · unfold wpX_rank wpY_rank wpY_isCode
    dsimp only
    refine aj_out h1 (br_t rfl ?_)
    exact aj_outl h1 (br_t rfl ⟨rfl, I'⟩)
  · unfold wpX_rank wpY_rank wpY_isCode
    dsimp only
    refine aj_inn 32768 he (by decide) ?_
    refine br_f (by decide) ?_
    refine aj_xrank u e he ?_
    refine aj_innl 32767 (by omega) (by decide) ?_
    refine br_f (by decide) ?_
    refine aj_ynum he ?_
    exact aj_yrank21 (aj_rv 5 e) (Nat.le_of_lt (aj_rv_lt 5 e)) ⟨rfl, I'⟩
def aj_cd (n : Nat) : Nat := (((aj_vi n 4 * 8 + aj_vi n 3) * 8 + aj_vi n 2) * 8 + aj_vi n 1) * 8 + aj_vi n 0
theorem aj_ycode {post : Int32 → Prop} {R C S : Nat → Int32} {n : Nat} (hn : n < 32768) (hp : post (nI (aj_cd n))) : wpY_code post (R, C, S) (nI n) := by
  unfold wpY_code
  dsimp only
  have st : ∀ (c m a : Nat) (x : Int32), c < 5 → nI c + (-1) = x → wY_code_4 post (nI n) R C S m (nI (a * 8 + aj_vi n c)) x → wY_code_4 post (nI n) R C S (m + 1) (nI a) (nI c) := by
    intro c m a x hc hx hw
    refine br_f (nI_pos (by omega)) ?_
    refine aj_yval c hn hc ?_
    refine nm_r (e' := nI (a * 8 + aj_vi n c)) ?_ (nm_r hx hw)
    rw [show (8 : Int32) = nI 8 from rfl, pk_mul, nI_add, Nat.mul_comm]
  refine ⟨6, ?_⟩
  refine st 4 5 0 (nI 3) (by omega) (pk_m1 3) ?_
  refine st 3 4 _ (nI 2) (by omega) (pk_m1 2) ?_
  refine st 2 3 _ (nI 1) (by omega) (pk_m1 1) ?_
  refine st 1 2 _ (nI 0) (by omega) (pk_m1 0) ?_
  refine st 0 1 _ (-1) (by omega) (by decide) ?_
  refine br_t (by decide) ?_
  rw [Nat.zero_mul, Nat.zero_add]
  exact hp
theorem aj_dec {e : Nat} (he : e < 32768) : (((e / 4096 % 8 * 8 + e / 512 % 8) * 8 + e / 64 % 8) * 8 + e / 8 % 8) * 8 + e % 8 = e := by
  rw [show e / 4096 % 8 = e / 4096 from by omega, show e / 4096 * 8 + e / 512 % 8 = e / 512 from by omega, show e / 512 * 8 + e / 64 % 8 = e / 64 from by omega, show e / 64 * 8 + e / 8 % 8 = e / 8 from by omega]
  omega
theorem aj_dg5 {x y z s t : Nat} (hx : x < 8) (hy : y < 8) (hz : z < 8) (hs : s < 8) (ht : t < 8) : aj_cd ((((x * 8 + y) * 8 + z) * 8 + s) * 8 + t) = (((t * 8 + s) * 8 + z) * 8 + y) * 8 + x := by
  show (((((((x * 8 + y) * 8 + z) * 8 + s) * 8 + t) / 1 % 8 * 8 + ((((x * 8 + y) * 8 + z) * 8 + s) * 8 + t) / 8 % 8) * 8 + ((((x * 8 + y) * 8 + z) * 8 + s) * 8 + t) / 64 % 8) * 8 + ((((x * 8 + y) * 8 + z) * 8 + s) * 8 + t) / 512 % 8) * 8 + ((((x * 8 + y) * 8 + z) * 8 + s) * 8 + t) / 4096 % 8 = _
  rw [show ((((x * 8 + y) * 8 + z) * 8 + s) * 8 + t) / 4096 % 8 = x from by omega, show ((((x * 8 + y) * 8 + z) * 8 + s) * 8 + t) / 512 % 8 = y from by omega, show ((((x * 8 + y) * 8 + z) * 8 + s) * 8 + t) / 64 % 8 = z from by omega, show ((((x * 8 + y) * 8 + z) * 8 + s) * 8 + t) / 8 % 8 = s from by omega, show ((((x * 8 + y) * 8 + z) * 8 + s) * 8 + t) / 1 % 8 = t from by omega]
theorem aj_cdrv {e : Nat} (he : e < 32768) : aj_cd (aj_rv 5 e) = e := by
  have er : aj_rv 5 e = ((((0 * 8 + e / 1 % 8) * 8 + e / 8 % 8) * 8 + e / 64 % 8) * 8 + e / 512 % 8) * 8 + e / 4096 % 8 := rfl
  rw [er, Nat.zero_mul, Nat.zero_add, Nat.div_one e, aj_dg5 (aj_m8 _) (aj_m8 _) (aj_m8 _) (aj_m8 _) (aj_m8 _)]
  exact aj_dec he
end
section
theorem aj_xans31 {post : Int32 → Prop} {J : Int32 → Int32 → Int32 → Prop} (h : Nat → Int32) (c e k : Nat) (hc : c < 5) (he : e < 8 ^ c) (hk : k < 2 ^ 31)
    (hhi : k < aj_sm (aj_A h) ((aj_rv c e * 8 + 8) * 8 ^ (4 - c)))
    (hJ : ∀ v l, v < 8 → l + aj_sm (aj_A h) ((aj_rv c e * 8 + v) * 8 ^ (4 - c)) = k → k < aj_sm (aj_A h) ((aj_rv c e * 8 + v + 1) * 8 ^ (4 - c)) → J (nI (e + v * 8 ^ c)) (nI l) (nI (c + 1))) :
    ∀ d v n l, v + d = 8 → d < n → l + aj_sm (aj_A h) ((aj_rv c e * 8 + v) * 8 ^ (4 - c)) = k → wX_answer_31 post J (nI e) (nI c) h n (nI l) (nI v) := by
  intro d
  induction d with
  | zero =>
    intro v n l hv hn hl
    have e8 : v = 8 := by omega
    subst e8
    omega
  | succ d ih =>
    intro v n l hv hn hl
    obtain ⟨m, rfl⟩ : ∃ m, n = m + 1 := ⟨n - 1, by omega⟩
    refine br_f (nI_ge (b := 8) (by omega) (by decide)) ?_
    have h1 := aj_ext hc he (v := v) (by omega)
    have h2 := aj_ple hc
    have hs := aj_step h c e v hc (by omega)
    rw [Nat.mod_eq_of_lt he] at hs
    have hle := aj_AV_le h c (e + v * 8 ^ c)
    refine nm_r (e' := nI (e + v * 8 ^ c)) (by rw [aj_shlE (by omega) hc, nI_add]) ?_
    refine aj_agr h c _ (by omega) hc ?_ (nI_1 c)
    refine pk_le (aj_AV h c (e + v * 8 ^ c)) l (fun hg => ?_) (fun hg => ?_)
    · refine nm_r (pk_sub hg) (nm_r (nI_1 v) ?_)
      refine ih (v + 1) m _ (by omega) (by omega) ?_
      rw [← Nat.add_assoc (aj_rv c e * 8) v 1, ← hs]
      omega
    · refine nm_r (nI_1 c) ?_
      refine hJ v l (by omega) hl ?_
      rw [← hs]
      omega
theorem aj_xans22 {post : Int32 → Prop} (h : Nat → Int32) (k : Nat) (hk : k < 2 ^ 31)
    (hp : ∀ e, e < 32768 → aj_sm (aj_A h) (aj_rv 5 e) ≤ k → k < aj_sm (aj_A h) (aj_rv 5 e + 1) → post (nI e)) :
    ∀ d c n e l, c + d = 5 → d < n → e < 8 ^ c → l + aj_sm (aj_A h) (aj_rv c e * 8 ^ (5 - c)) = k → k < aj_sm (aj_A h) ((aj_rv c e + 1) * 8 ^ (5 - c)) → wX_answer_22 post h n (nI e) (nI l) (nI c) := by
  intro d
  induction d with
  | zero =>
    intro c n e l hc hn he hl hh
    obtain ⟨m, rfl⟩ : ∃ m, n = m + 1 := ⟨n - 1, by omega⟩
    have e5 : c = 5 := by omega
    subst e5
    rw [show aj_rv 5 e * 8 ^ (5 - 5) = aj_rv 5 e from Nat.mul_one _] at hl
    rw [show (aj_rv 5 e + 1) * 8 ^ (5 - 5) = aj_rv 5 e + 1 from Nat.mul_one _] at hh
    exact br_t (nI_le (a := 5) (Nat.le_refl _) (by decide)) (hp e he (by omega) hh)
  | succ d ih =>
    intro c n e l hc hn he hl hh
    obtain ⟨m, rfl⟩ : ∃ m, n = m + 1 := ⟨n - 1, by omega⟩
    have hc5 : c < 5 := by omega
    refine br_f (nI_ge (b := 5) hc5 (by decide)) ⟨9, ?_⟩
    rw [show 5 - c = (4 - c) + 1 from by omega, Nat.pow_succ, Nat.mul_comm (8 ^ (4 - c)) 8, ← Nat.mul_assoc] at hl hh
    refine aj_xans31 h c e k hc5 he hk (by rw [show aj_rv c e * 8 + 8 = (aj_rv c e + 1) * 8 from by omega]; exact hh) ?_ 8 0 9 l (by omega) (by omega) hl
    intro v l' hv hl' hh'
    have er : aj_rv (c + 1) (e + v * 8 ^ c) = aj_rv c e * 8 + v := by
      have := aj_rv_app c e v hc5 hv
      rw [Nat.mod_eq_of_lt he] at this
      exact this
    refine ih (c + 1) m (e + v * 8 ^ c) l' (by omega) (by omega) (aj_ext hc5 he hv) ?_ ?_
    · rw [er, show 5 - (c + 1) = 4 - c from by omega]
      exact hl'
    · rw [er, show 5 - (c + 1) = 4 - c from by omega]
      exact hh'
theorem aj_Sle (h : Nat → Int32) {m : Nat} (hm : m ≤ 32768) : aj_sm (aj_A h) m ≤ 32768 := Nat.le_trans (aj_sm_bd (fun i _ => aj_A_le h i)) hm
theorem aj_yans1 {post : Int32 → Prop} {R C S : Nat → Int32} (m : Nat) (hm : m < 32768) (hA : aj_A R m = 1) (hp : post (nI (aj_cd m))) :
    ∀ d j n, j + d = m → d < n → wY_answer_4 post (nI (aj_sm (aj_A R) m)) R C S n (nI (aj_sm (aj_A R) j)) (nI j) := by
  intro d
  induction d with
  | zero =>
    intro j n hj hn
    obtain ⟨w, rfl⟩ : ∃ w, n = w + 1 := ⟨n - 1, by omega⟩
    have ej : j = m := by omega
    subst ej
    refine br_f (nI_ge (b := 32768) hm (by decide)) ?_
    refine aj_yans hm ?_
    rw [hA]
    refine br_f (by decide) (br_t rfl ?_)
    exact aj_ycode hm hp
  | succ d ih =>
    intro j n hj hn
    obtain ⟨w, rfl⟩ : ∃ w, n = w + 1 := ⟨n - 1, by omega⟩
    have hj2 : j < 32768 := by omega
    refine br_f (nI_ge (b := 32768) hj2 (by decide)) ?_
    refine aj_yans hj2 ?_
    have hw := ih (j + 1) w (by omega) (by omega)
    rcases aj_A01 R j with z | z
    · rw [z]
      rw [aj_sm_s, z, Nat.add_zero] at hw
      exact br_t rfl (nm_r (nI_1 j) hw)
    · rw [z]
      rw [aj_sm_s, z] at hw
      have h1 : aj_sm (aj_A R) (j + 1) ≤ aj_sm (aj_A R) m := aj_sm_mono (by omega)
      rw [aj_sm_s, z] at h1
      have h2 := aj_Sle R (m := m) (by omega)
      have hne : ¬ nI (aj_sm (aj_A R) j) = nI (aj_sm (aj_A R) m) := fun e => by
        have := (nI_eq (by omega) (by omega)).mp e
        omega
      exact br_f (by decide) (br_f hne (nm_r (nI_1 _) (nm_r (nI_1 j) hw)))
theorem aj_yans0 {post : Int32 → Prop} {R C S : Nat → Int32} (x : Int32) (hx : ∀ j, j < 32768 → aj_A R j = 1 → ¬ nI (aj_sm (aj_A R) j) = x) (hp : post (-4)) :
    ∀ d j n, j + d = 32768 → d < n → wY_answer_4 post x R C S n (nI (aj_sm (aj_A R) j)) (nI j) := by
  intro d
  induction d with
  | zero =>
    intro j n hj hn
    obtain ⟨w, rfl⟩ : ∃ w, n = w + 1 := ⟨n - 1, by omega⟩
    exact br_t (nI_le (a := 32768) (by omega) (by omega)) hp
  | succ d ih =>
    intro j n hj hn
    obtain ⟨w, rfl⟩ : ∃ w, n = w + 1 := ⟨n - 1, by omega⟩
    have hj2 : j < 32768 := by omega
    refine br_f (nI_ge (b := 32768) hj2 (by decide)) ?_
    refine aj_yans hj2 ?_
    have hw := ih (j + 1) w (by omega) (by omega)
    rcases aj_A01 R j with z | z
    · rw [z]
      rw [aj_sm_s, z, Nat.add_zero] at hw
      exact br_t rfl (nm_r (nI_1 j) hw)
    · rw [z]
      rw [aj_sm_s, z] at hw
      exact br_f (by decide) (br_f (hx j hj2 z) (nm_r (nI_1 _) (nm_r (nI_1 j) hw)))
theorem i_vc_answer {k : Nat} {u : SX} {v : SY} (I : i_Rel k u v) (hk : k + 4 ≤ 2048) (v1 : Int32) : wpX_answer (fun r => wpY_answer (fun r' => r' = r ∧ i_Rel (k + 4) u v) v v1) u v1 := by
  have I' := I
  obtain ⟨C, S, rfl, hC⟩ := I
  have hS := aj_Sle u (Nat.le_refl 32768)
  have no : ∀ x : Int32, (∀ j, j < 32768 → aj_A u j = 1 → ¬ nI (aj_sm (aj_A u) j) = x) → wpY_answer (fun r' => r' = -4 ∧ i_Rel (k + 4) u (u, C, S)) (u, C, S) x := by
    intro x hx
    unfold wpY_answer
    dsimp only
    exact ⟨32769, aj_yans0 x hx ⟨rfl, I'⟩ 32768 0 32769 (by omega) (by omega)⟩
  unfold wpX_answer
  by_cases hneg : v1 < 0
  · refine br_t hneg (no v1 (fun j hj _ e => ?_))
    have h2 := aj_Sle u (m := j) (by omega)
    rw [← e] at hneg
    exact nI_pos (by omega) hneg
  · refine br_f hneg ?_
    obtain ⟨q, hq, rfl⟩ := nI_of hneg
    unfold wpX_count
    refine aj_mat u none none none none none True.intro True.intro True.intro True.intro True.intro ?_
    rw [aj_MV_count]
    refine pk_lt q (aj_sm (aj_A u) 32768) (fun hlt => ?_) (fun hge => ?_)
    · refine ⟨6, ?_⟩
      refine aj_xans22 u q hq ?_ 5 0 6 0 q (by omega) (by omega) (by decide) ?_ ?_
      · intro e he h1 h2
        have hm : aj_rv 5 e < 32768 := aj_rv_lt 5 e
        rw [aj_sm_s] at h2
        have h3 := aj_A_le u (aj_rv 5 e)
        have hA : aj_A u (aj_rv 5 e) = 1 := by omega
        have hS2 : q = aj_sm (aj_A u) (aj_rv 5 e) := by omega
        unfold wpY_answer
        dsimp only
        rw [hS2]
        exact ⟨aj_rv 5 e + 1, aj_yans1 (aj_rv 5 e) hm hA ⟨by rw [aj_cdrv he], I'⟩ (aj_rv 5 e) 0 _ (by omega) (by omega)⟩
      · show q + aj_sm (aj_A u) (0 * 8 ^ (5 - 0)) = q
        rw [Nat.zero_mul]
        rfl
      · exact hlt
    · refine no (nI q) (fun j hj hA e => ?_)
      have h1 : aj_sm (aj_A u) (j + 1) ≤ aj_sm (aj_A u) 32768 := aj_sm_mono (by omega)
      rw [aj_sm_s, hA] at h1
      have := (nI_eq (by omega) (by omega)).mp e
      omega
end
section
def aj_pr (n : Nat) : Nat := 8 * aj_vi n 0 + aj_vi n 3
theorem aj_pr_lt (n : Nat) : aj_pr n < 64 := by
  have h1 := aj_vi_lt n 0
  have h2 := aj_vi_lt n 3
  unfold aj_pr
  omega
def aj_D (h : Nat → Int32) (n j : Nat) : Nat := aj_ps (aj_sm (fun m => aj_A h m * aj_e (aj_pr m) j) n)
theorem aj_D0 (h : Nat → Int32) (j : Nat) : aj_D h 0 j = 0 := rfl
theorem aj_D_le (h : Nat → Int32) (n j : Nat) : aj_D h n j ≤ 1 := aj_ps_le _
theorem aj_D_k {h : Nat → Int32} {n j : Nat} (z : aj_A h n * aj_e (aj_pr n) j = 0) : aj_D h (n + 1) j = aj_D h n j := by
  unfold aj_D
  rw [aj_sm_s, z, Nat.add_zero]
theorem aj_D_1 {h : Nat → Int32} {n : Nat} (z : aj_A h n = 1) : aj_D h (n + 1) (aj_pr n) = 1 := by
  unfold aj_D
  rw [aj_sm_s, z, aj_e_t rfl]
  exact aj_ps_p (by omega)
theorem aj_D_same {h : Nat → Int32} {n : Nat} (z : aj_A h n = 0 ∨ aj_D h n (aj_pr n) ≠ 0) (j : Nat) : aj_D h (n + 1) j = aj_D h n j := by
  by_cases e : aj_A h n = 0
  · exact aj_D_k (by rw [e, Nat.zero_mul])
  · by_cases ej : aj_pr n = j
    · subst ej
      have h1 := aj_A_le h n
      have h2 := aj_D_le h n (aj_pr n)
      rw [aj_D_1 (by omega)]
      rcases z with z | z
      · exact (e z).elim
      · omega
    · exact aj_D_k (by rw [aj_e_f ej, Nat.mul_zero])
theorem aj_D_new {h : Nat → Int32} {n : Nat} (z : aj_A h n = 1) (w : aj_D h n (aj_pr n) = 0) : aj_sm (aj_D h (n + 1)) 64 = aj_sm (aj_D h n) 64 + 1 := by
  have e : ∀ j, j < 64 → aj_D h (n + 1) j = aj_D h n j + aj_e j (aj_pr n) := by
    intro j _
    by_cases ej : j = aj_pr n
    · subst ej
      rw [aj_D_1 z, w, aj_e_t rfl]
    · rw [aj_D_k (by rw [aj_e_f (Ne.symm ej), Nat.mul_zero]), aj_e_f ej, Nat.add_zero]
  rw [aj_cg e, aj_sm_add, aj_sm_one (f := fun j => aj_e j (aj_pr n)) (v := aj_pr n) (aj_pr_lt n) (fun j _ hn => aj_e_f hn), aj_e_t rfl]
theorem aj_yends25 {post : Int32 → SY → Prop} {R C : Nat → Int32} (hp : ∀ S, post (nI (aj_sm (aj_D R 32768) 64)) (R, C, S)) :
    ∀ d j n (S : Nat → Int32), j + d = 32768 → d < n → (∀ q, q < 64 → (S q = 0 ↔ aj_D R j q = 0)) → wY_ends_25 post n (nI (aj_sm (aj_D R j) 64)) (nI j) R C S := by
  intro d
  induction d with
  | zero =>
    intro j n S hj hn hS
    obtain ⟨w, rfl⟩ : ∃ w, n = w + 1 := ⟨n - 1, by omega⟩
    have ej : j = 32768 := by omega
    subst ej
    exact br_t (nI_le (a := 32768) (Nat.le_refl _) (by decide)) (hp S)
  | succ d ih =>
    intro j n S hj hn hS
    obtain ⟨w, rfl⟩ : ∃ w, n = w + 1 := ⟨n - 1, by omega⟩
    have hj2 : j < 32768 := by omega
    have hpr := aj_pr_lt j
    refine br_f (nI_ge (b := 32768) hj2 (by decide)) ?_
    refine aj_yval 0 hj2 (by omega) ?_
    refine aj_yval 3 hj2 (by omega) ?_
    refine nm_r (e' := nI (aj_pr j)) (by rw [show (8 : Int32) = nI 8 from rfl, pk_mul, nI_add]; rfl) ?_
    refine ⟨vp_in_nI hpr (by omega), ?_⟩
    rw [nI_clamp (by omega)]
    by_cases z : S (aj_pr j) = 0
    · refine br_t z ?_
      refine aj_yans hj2 ?_
      have w0 := (hS _ hpr).mp z
      rcases aj_A01 R j with a | a
      · rw [a]
        refine br_t rfl (nm_r (nI_1 j) ?_)
        have hs := fun q => aj_D_same (h := R) (n := j) (Or.inl a) q
        have := ih (j + 1) w S (by omega) (by omega) (fun q hq => by rw [hs q]; exact hS q hq)
        rw [aj_cg (fun q _ => hs q)] at this
        exact this
      · rw [a]
        refine br_f (by decide) ⟨vp_in_nI hpr (by omega), nm_e ?_⟩
        have := ih (j + 1) w (upd S (aj_pr j) (vp_nar .boolean 1)) (by omega) (by omega) (fun q hq => by
          by_cases e : q = aj_pr j
          · subst e
            rw [pk_us, aj_D_1 a]
            exact ⟨fun h => absurd h (by decide), fun h => absurd h (by decide)⟩
          · rw [pk_un e, aj_D_k (by rw [aj_e_f (Ne.symm e), Nat.mul_zero])]
            exact hS q hq)
        rw [aj_D_new a w0] at this
        exact nm_r (nI_1 _) (nm_r (nI_1 j) this)
    · refine br_f z (nm_r (nI_1 j) ?_)
      have w1 : aj_D R j (aj_pr j) ≠ 0 := fun h => z ((hS _ hpr).mpr h)
      have hs := fun q => aj_D_same (h := R) (n := j) (Or.inr w1) q
      have := ih (j + 1) w S (by omega) (by omega) (fun q hq => by rw [hs q]; exact hS q hq)
      rw [aj_cg (fun q _ => hs q)] at this
      exact this
theorem aj_yends2 {post : Int32 → SY → Prop} {R C : Nat → Int32} (hp : ∀ S, (∀ q, q < 64 → S q = 0) → ∃ n, wY_ends_25 post n 0 0 R C S) :
    ∀ d j n (S : Nat → Int32), j + d = 64 → d < n → (∀ q, q < j → S q = 0) → wY_ends_2 post n (nI j) R C S := by
  intro d
  induction d with
  | zero =>
    intro j n S hj hn hS
    obtain ⟨w, rfl⟩ : ∃ w, n = w + 1 := ⟨n - 1, by omega⟩
    exact br_t (nI_le (a := 64) (by omega) (by omega)) (hp S (fun q hq => hS q (by omega)))
  | succ d ih =>
    intro j n S hj hn hS
    obtain ⟨w, rfl⟩ : ∃ w, n = w + 1 := ⟨n - 1, by omega⟩
    refine br_f (nI_ge (b := 64) (by omega) (by decide)) ⟨vp_in_nI (by omega) (by omega), nm_e (nm_r (nI_1 j) ?_)⟩
    rw [nI_clamp (by omega)]
    refine ih (j + 1) w _ (by omega) (by omega) (fun q hq => ?_)
    by_cases e : q = j
    · subst e
      rw [pk_us]
      rfl
    · rw [pk_un e]
      exact hS q (by omega)
def aj_EN (h : Nat → Int32) : Nat := aj_sm (fun p => aj_sm (fun s => aj_ps (aj_MV h (some p) none none (some s) none)) 8) 8
theorem aj_ENE (h : Nat → Int32) : aj_sm (aj_D h 32768) 64 = aj_EN h := by
  have e1 := aj_sm_blk (aj_D h 32768) 8 8
  rw [show 8 * 8 = 64 from rfl] at e1
  rw [e1]
  unfold aj_EN
  refine aj_cg (fun p hp => aj_cg (fun s hs => ?_))
  unfold aj_D
  refine congrArg aj_ps ?_
  rw [aj_MV_eq]
  refine aj_cg (fun n _ => ?_)
  show aj_A h n * aj_e (8 * (n / 4096 % 8) + n / 8 % 8) (p * 8 + s) = (aj_e (n / 4096 % 8) p * 1 * 1 * aj_e (n / 8 % 8) s * 1) * aj_A h n
  rw [Nat.mul_comm 8 (n / 4096 % 8), ← aj_e3 (aj_m8 _) hs]
  simp only [Nat.mul_one]
  exact Nat.mul_comm _ _
theorem aj_xends {post : Int32 → Prop} (h : Nat → Int32) (hp : post (nI (aj_EN h))) : wpX_ends post h := by
  unfold wpX_ends
  refine aj_acc0 (fun n x1 x2 => wX_ends_4 post h n x1 x2) (fun p => aj_sm (fun s => aj_ps (aj_MV h (some p) none none (some s) none)) 8) 8 post ?_ ?_ 0 ?_
  · intro n a hk
    exact br_t (nI_le (a := 8) (Nat.le_refl _) (by decide)) hk
  · intro n p acc hpp hw
    refine br_f (nI_ge (b := 8) hpp (by decide)) ?_
    refine aj_acc0 (fun m x1 x3 => wX_ends_12 post (wX_ends_4 post h n) (nI p) h m x1 x3) (fun s => aj_ps (aj_MV h (some p) none none (some s) none)) 8 (fun z => wX_ends_4 post h n z (nI (p + 1))) ?_ ?_ acc hw
    · intro m z hk
      exact br_t (nI_le (a := 8) (Nat.le_refl _) (by decide)) (nm_r (nI_1 p) hk)
    · intro m s z hs hw2
      refine br_f (nI_ge (b := 8) hs (by decide)) ?_
      refine aj_mat h (some p) none none (some s) none hpp True.intro True.intro hs True.intro ?_
      refine aj_pos0 (aj_MV_le _ _ _ _ _ _) (fun e => ?_) (fun e => ?_)
      · rw [e, aj_ps_0, nI_0, Int32.add_zero] at hw2
        exact nm_r (nI_1 s) hw2
      · rw [aj_ps_p e] at hw2
        exact nm_e (nm_r (nI_1 s) hw2)
  · rw [Int32.zero_add]
    exact hp
theorem i_vc_ends {k : Nat} {u : SX} {v : SY} (I : i_Rel k u v) (hk : k + 4 ≤ 2048) : wpX_ends (fun r => wpY_ends (fun r' v' => r' = r ∧ i_Rel (k + 4) u v') v) u := by
  obtain ⟨C, S, rfl, hC⟩ := I
  refine aj_xends u ?_
  unfold wpY_ends
  dsimp only
  refine ⟨65, aj_yends2 (fun S' hS' => ?_) 64 0 65 S (by omega) (by omega) (fun q hq => by omega)⟩
  refine ⟨32769, ?_⟩
  have := aj_yends25 (post := fun r' v' => r' = nI (aj_EN u) ∧ i_Rel (k + 4) u v') (R := u) (C := C) (fun S'' => ⟨by rw [aj_ENE], C, S'', rfl, hC⟩) 32768 0 32769 S' (by omega) (by omega) (fun q hq => ⟨fun _ => rfl, fun _ => hS' q hq⟩)
  rw [aj_sm_z (fun q _ => aj_D0 u q), nI_0] at this
  exact this
end
