def aj_sm (f : Nat → Nat) : Nat → Nat
  | 0 => 0
  | n + 1 => aj_sm f n + f n
theorem aj_sm_0 (f : Nat → Nat) : aj_sm f 0 = 0 := rfl
theorem aj_sm_s (f : Nat → Nat) (n : Nat) : aj_sm f (n + 1) = aj_sm f n + f n := rfl
theorem aj_cg {f g : Nat → Nat} : ∀ {n : Nat}, (∀ i, i < n → f i = g i) → aj_sm f n = aj_sm g n := by
  intro n
  induction n with
  | zero => intro _; rfl
  | succ n ih =>
    intro h
    rw [aj_sm_s, aj_sm_s, ih (fun i hi => h i (by omega)), h n (by omega)]
theorem aj_sm_z {f : Nat → Nat} {n : Nat} (h : ∀ i, i < n → f i = 0) : aj_sm f n = 0 := by
  induction n with
  | zero => rfl
  | succ n ih => rw [aj_sm_s, ih (fun i hi => h i (by omega)), h n (by omega)]
theorem aj_sm_add (f g : Nat → Nat) (n : Nat) : aj_sm (fun i => f i + g i) n = aj_sm f n + aj_sm g n := by
  induction n with
  | zero => rfl
  | succ n ih => rw [aj_sm_s, aj_sm_s, aj_sm_s, ih]; omega
theorem aj_sm_mul (c : Nat) (f : Nat → Nat) (n : Nat) : aj_sm (fun i => c * f i) n = c * aj_sm f n := by
  induction n with
  | zero => rfl
  | succ n ih => rw [aj_sm_s, aj_sm_s, ih, Nat.mul_add]
theorem aj_sm_mulr (c : Nat) (f : Nat → Nat) (n : Nat) : aj_sm (fun i => f i * c) n = aj_sm f n * c := by
  induction n with
  | zero => rw [aj_sm_0, aj_sm_0, Nat.zero_mul]
  | succ n ih => rw [aj_sm_s, aj_sm_s, ih, Nat.add_mul]
theorem aj_sm_swap (f : Nat → Nat → Nat) (m n : Nat) : aj_sm (fun i => aj_sm (fun j => f i j) n) m = aj_sm (fun j => aj_sm (fun i => f i j) m) n := by
  induction m with
  | zero => rw [aj_sm_0]; exact (aj_sm_z (fun _ _ => rfl)).symm
  | succ m ih =>
    rw [aj_sm_s, ih, ← aj_sm_add]
    rfl
theorem aj_sm_split (f : Nat → Nat) (a b : Nat) : aj_sm f (a + b) = aj_sm f a + aj_sm (fun i => f (a + i)) b := by
  induction b with
  | zero => rfl
  | succ b ih => rw [← Nat.add_assoc, aj_sm_s, ih, aj_sm_s, Nat.add_assoc]
theorem aj_sm_blk (f : Nat → Nat) (w a : Nat) : aj_sm f (a * w) = aj_sm (fun m => aj_sm (fun d => f (m * w + d)) w) a := by
  induction a with
  | zero => rw [Nat.zero_mul]; rfl
  | succ a ih => rw [Nat.succ_mul, aj_sm_split, ih, aj_sm_s]
theorem aj_sm_one {f : Nat → Nat} {v n : Nat} (hv : v < n) (h : ∀ i, i < n → i ≠ v → f i = 0) : aj_sm f n = f v := by
  induction n with
  | zero => omega
  | succ n ih =>
    rw [aj_sm_s]
    by_cases e : v = n
    · subst e
      rw [aj_sm_z (fun i hi => h i (by omega) (by omega)), Nat.zero_add]
    · rw [ih (by omega) (fun i hi => h i (by omega)), h n (by omega) (by omega), Nat.add_zero]
theorem aj_sm_le {f g : Nat → Nat} {n : Nat} (h : ∀ i, i < n → f i ≤ g i) : aj_sm f n ≤ aj_sm g n := by
  induction n with
  | zero => exact Nat.le_refl _
  | succ n ih =>
    rw [aj_sm_s, aj_sm_s]
    have := ih (fun i hi => h i (by omega))
    have := h n (by omega)
    omega
theorem aj_sm_bd {f : Nat → Nat} {n : Nat} (h : ∀ i, i < n → f i ≤ 1) : aj_sm f n ≤ n := by
  induction n with
  | zero => exact Nat.le_refl _
  | succ n ih =>
    rw [aj_sm_s]
    have := ih (fun i hi => h i (by omega))
    have := h n (by omega)
    omega
theorem aj_sm_mono {f : Nat → Nat} {a b : Nat} (h : a ≤ b) : aj_sm f a ≤ aj_sm f b := by
  obtain ⟨c, rfl⟩ : ∃ c, b = a + c := ⟨b - a, by omega⟩
  rw [aj_sm_split]
  omega
theorem aj_sm_pos {f : Nat → Nat} {n : Nat} : 0 < aj_sm f n ↔ ∃ i, i < n ∧ 0 < f i := by
  induction n with
  | zero => exact ⟨fun h => absurd h (by rw [aj_sm_0]; omega), fun ⟨i, hi, _⟩ => by omega⟩
  | succ n ih =>
    rw [aj_sm_s]
    constructor
    · intro h
      by_cases z : 0 < f n
      · exact ⟨n, by omega, z⟩
      · obtain ⟨i, hi, hp⟩ := ih.mp (by omega)
        exact ⟨i, by omega, hp⟩
    · intro ⟨i, hi, hp⟩
      by_cases e : i = n
      · subst e; omega
      · have := ih.mpr ⟨i, by omega, hp⟩
        omega
def aj_e (a b : Nat) : Nat := if a = b then 1 else 0
theorem aj_e_t {a b : Nat} (h : a = b) : aj_e a b = 1 := if_pos h
theorem aj_e_f {a b : Nat} (h : a ≠ b) : aj_e a b = 0 := if_neg h
theorem aj_e_le (a b : Nat) : aj_e a b ≤ 1 := by unfold aj_e; split <;> omega
def aj_ps (n : Nat) : Nat := if n = 0 then 0 else 1
theorem aj_ps_0 : aj_ps 0 = 0 := rfl
theorem aj_ps_p {n : Nat} (h : 0 < n) : aj_ps n = 1 := if_neg (by omega)
theorem aj_ps_le (n : Nat) : aj_ps n ≤ 1 := by unfold aj_ps; split <;> omega
def aj_mt (o : Option Nat) (x : Nat) : Nat := match o with
  | none => 1
  | some v => aj_e x v
theorem aj_mt_le (o : Option Nat) (x : Nat) : aj_mt o x ≤ 1 := by
  cases o with
  | none => exact Nat.le_refl _
  | some v => exact aj_e_le _ _
def aj_lo (o : Option Nat) : Nat := match o with
  | none => 0
  | some v => v
def aj_hi (o : Option Nat) : Nat := match o with
  | none => 8
  | some v => v + 1
def aj_O (o : Option Nat) : Int32 := match o with
  | none => -1
  | some v => nI v
def aj_ok (o : Option Nat) : Prop := match o with
  | none => True
  | some v => v < 8
theorem aj_sm_mt (o : Option Nat) (h : aj_ok o) (f : Nat → Nat) : aj_sm (fun i => f (aj_lo o + i)) (aj_hi o - aj_lo o) = aj_sm (fun x => aj_mt o x * f x) 8 := by
  cases o with
  | none =>
    show aj_sm (fun i => f (0 + i)) 8 = _
    exact aj_cg (fun i _ => by rw [Nat.zero_add]; exact (Nat.one_mul _).symm)
  | some v =>
    have hv : v < 8 := h
    rw [aj_sm_one (v := v) hv (fun i _ hn => by show aj_e i v * f i = 0; rw [aj_e_f hn, Nat.zero_mul])]
    show aj_sm (fun i => f (v + i)) (v + 1 - v) = aj_e v v * f v
    rw [aj_e_t rfl, Nat.add_sub_cancel_left, Nat.one_mul]
    exact Nat.zero_add _
/-- an adding loop -/
theorem aj_acc (W : Nat → Int32 → Int32 → Prop) (f : Nat → Nat) (e : Nat) (K : Int32 → Prop)
    (hx : ∀ n a, K a → W (n + 1) a (nI e))
    (hs : ∀ n i a, i < e → W n (a + nI (f i)) (nI (i + 1)) → W (n + 1) a (nI i)) :
    ∀ d lo n a, lo + d = e → d < n → K (a + nI (aj_sm (fun i => f (lo + i)) d)) → W n a (nI lo) := by
  intro d
  induction d with
  | zero =>
    intro lo n a hl hn hK
    obtain ⟨m, rfl⟩ : ∃ m, n = m + 1 := ⟨n - 1, by omega⟩
    have : lo = e := by omega
    subst this
    rw [aj_sm_0, nI_0, Int32.add_zero] at hK
    exact hx m a hK
  | succ d ih =>
    intro lo n a hl hn hK
    obtain ⟨m, rfl⟩ : ∃ m, n = m + 1 := ⟨n - 1, by omega⟩
    refine hs m lo a (by omega) (ih (lo + 1) m _ (by omega) (by omega) ?_)
    have e1 : aj_sm (fun i => f (lo + i)) (d + 1) = f lo + aj_sm (fun i => f (lo + 1 + i)) d := by
      rw [Nat.add_comm d 1, aj_sm_split]
      show (0 + f (lo + 0)) + aj_sm (fun i => f (lo + (1 + i))) d = _
      rw [Nat.zero_add, Nat.add_zero]
      exact congrArg _ (aj_cg (fun i _ => by rw [Nat.add_assoc]))
    rw [e1, ← nI_add, ← Int32.add_assoc] at hK
    exact hK
theorem aj_acc0 (W : Nat → Int32 → Int32 → Prop) (f : Nat → Nat) (e : Nat) (K : Int32 → Prop)
    (hx : ∀ n a, K a → W (n + 1) a (nI e))
    (hs : ∀ n i a, i < e → W n (a + nI (f i)) (nI (i + 1)) → W (n + 1) a (nI i))
    (a : Int32) (hK : K (a + nI (aj_sm f e))) : ∃ n, W n a (nI 0) := by
  refine ⟨e + 1, aj_acc W f e K hx hs e 0 (e + 1) a (by omega) (by omega) ?_⟩
  rw [show aj_sm (fun i => f (0 + i)) e = aj_sm f e from aj_cg (fun i _ => by rw [Nat.zero_add])]
  exact hK
theorem aj_acc1 (W : Nat → Int32 → Int32 → Prop) (f : Nat → Nat) (o : Option Nat) (ho : aj_ok o) (K : Int32 → Prop)
    (hx : ∀ n a, K a → W (n + 1) a (nI (aj_hi o)))
    (hs : ∀ n i a, i < 8 → W n (a + nI (f i)) (nI (i + 1)) → i < aj_hi o → W (n + 1) a (nI i))
    (a : Int32) (hK : K (a + nI (aj_sm (fun x => aj_mt o x * f x) 8))) : ∃ n, W n a (nI (aj_lo o)) := by
  have h8 : aj_hi o ≤ 8 := by
    cases o with
    | none => exact Nat.le_refl _
    | some v => exact ho
  have hl : aj_lo o ≤ aj_hi o := by
    cases o with
    | none => exact Nat.zero_le _
    | some v => exact Nat.le_succ _
  refine ⟨aj_hi o - aj_lo o + 1, aj_acc W f (aj_hi o) K hx (fun n i a hi w => hs n i a (by omega) w hi) (aj_hi o - aj_lo o) (aj_lo o) _ a (by omega) (by omega) ?_⟩
  rw [aj_sm_mt o ho]
  exact hK
