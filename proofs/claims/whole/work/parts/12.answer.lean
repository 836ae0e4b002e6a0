theorem aj_xans31 {post : Int32 → Prop} {J : Int32 → Int32 → Int32 → Prop} (h : Nat → Int32) (c e k : Nat) (hc : c < 5) (he : e < 8 ^ c) (hk : k < 2 ^ 31)
    (hhi : k < aj_sm (aj_A h) ((aj_rv c e * 8 + 8) * 8 ^ (4 - c)))
    (hJ : ∀ v l, v < 8 → l + aj_sm (aj_A h) ((aj_rv c e * 8 + v) * 8 ^ (4 - c)) = k → k < aj_sm (aj_A h) ((aj_rv c e * 8 + v + 1) * 8 ^ (4 - c)) → J (nI (e + v * 8 ^ c)) (nI l) (nI (c + 1))) :
    ∀ d v n l, v + d = 8 → d < n → l + aj_sm (aj_A h) ((aj_rv c e * 8 + v) * 8 ^ (4 - c)) = k → wX_answer_31 post J (nI e) (nI c) h n (nI l) (nI v) := by
  intro d
  induction d with
  | zero =>
    intro v n l hv hn hl
    have e8 : v = 8 := by omega
    subst e8
    omega
  | succ d ih =>
    intro v n l hv hn hl
    obtain ⟨m, rfl⟩ : ∃ m, n = m + 1 := ⟨n - 1, by omega⟩
    refine br_f (nI_ge (b := 8) (by omega) (by decide)) ?_
    have h1 := aj_ext hc he (v := v) (by omega)
    have h2 := aj_ple hc
    have hs := aj_step h c e v hc (by omega)
    rw [Nat.mod_eq_of_lt he] at hs
    have hle := aj_AV_le h c (e + v * 8 ^ c)
    refine nm_r (e' := nI (e + v * 8 ^ c)) (by rw [aj_shlE (by omega) hc, nI_add]) ?_
    refine aj_agr h c _ (by omega) hc ?_ (nI_1 c)
    refine pk_le (aj_AV h c (e + v * 8 ^ c)) l (fun hg => ?_) (fun hg => ?_)
    · refine nm_r (pk_sub hg) (nm_r (nI_1 v) ?_)
      refine ih (v + 1) m _ (by omega) (by omega) ?_
      rw [← Nat.add_assoc (aj_rv c e * 8) v 1, ← hs]
      omega
    · refine nm_r (nI_1 c) ?_
      refine hJ v l (by omega) hl ?_
      rw [← hs]
      omega
theorem aj_xans22 {post : Int32 → Prop} (h : Nat → Int32) (k : Nat) (hk : k < 2 ^ 31)
    (hp : ∀ e, e < 32768 → aj_sm (aj_A h) (aj_rv 5 e) ≤ k → k < aj_sm (aj_A h) (aj_rv 5 e + 1) → post (nI e)) :
    ∀ d c n e l, c + d = 5 → d < n → e < 8 ^ c → l + aj_sm (aj_A h) (aj_rv c e * 8 ^ (5 - c)) = k → k < aj_sm (aj_A h) ((aj_rv c e + 1) * 8 ^ (5 - c)) → wX_answer_22 post h n (nI e) (nI l) (nI c) := by
  intro d
  induction d with
  | zero =>
    intro c n e l hc hn he hl hh
    obtain ⟨m, rfl⟩ : ∃ m, n = m + 1 := ⟨n - 1, by omega⟩
    have e5 : c = 5 := by omega
    subst e5
    rw [show aj_rv 5 e * 8 ^ (5 - 5) = aj_rv 5 e from Nat.mul_one _] at hl
    rw [show (aj_rv 5 e + 1) * 8 ^ (5 - 5) = aj_rv 5 e + 1 from Nat.mul_one _] at hh
    exact br_t (nI_le (a := 5) (Nat.le_refl _) (by decide)) (hp e he (by omega) hh)
  | succ d ih =>
    intro c n e l hc hn he hl hh
    obtain ⟨m, rfl⟩ : ∃ m, n = m + 1 := ⟨n - 1, by omega⟩
    have hc5 : c < 5 := by omega
    refine br_f (nI_ge (b := 5) hc5 (by decide)) ⟨9, ?_⟩
    rw [show 5 - c = (4 - c) + 1 from by omega, Nat.pow_succ, Nat.mul_comm (8 ^ (4 - c)) 8, ← Nat.mul_assoc] at hl hh
    refine aj_xans31 h c e k hc5 he hk (by rw [show aj_rv c e * 8 + 8 = (aj_rv c e + 1) * 8 from by omega]; exact hh) ?_ 8 0 9 l (by omega) (by omega) hl
    intro v l' hv hl' hh'
    have er : aj_rv (c + 1) (e + v * 8 ^ c) = aj_rv c e * 8 + v := by
      have := aj_rv_app c e v hc5 hv
      rw [Nat.mod_eq_of_lt he] at this
      exact this
    refine ih (c + 1) m (e + v * 8 ^ c) l' (by omega) (by omega) (aj_ext hc5 he hv) ?_ ?_
    · rw [er, show 5 - (c + 1) = 4 - c from by omega]
      exact hl'
    · rw [er, show 5 - (c + 1) = 4 - c from by omega]
      exact hh'
theorem aj_Sle (h : Nat → Int32) {m : Nat} (hm : m ≤ 32768) : aj_sm (aj_A h) m ≤ 32768 := Nat.le_trans (aj_sm_bd (fun i _ => aj_A_le h i)) hm
theorem aj_yans1 {post : Int32 → Prop} {R C S : Nat → Int32} (m : Nat) (hm : m < 32768) (hA : aj_A R m = 1) (hp : post (nI (aj_cd m))) :
    ∀ d j n, j + d = m → d < n → wY_answer_4 post (nI (aj_sm (aj_A R) m)) R C S n (nI (aj_sm (aj_A R) j)) (nI j) := by
  intro d
  induction d with
  | zero =>
    intro j n hj hn
    obtain ⟨w, rfl⟩ : ∃ w, n = w + 1 := ⟨n - 1, by omega⟩
    have ej : j = m := by omega
    subst ej
    refine br_f (nI_ge (b := 32768) hm (by decide)) ?_
    refine aj_yans hm ?_
    rw [hA]
    refine br_f (by decide) (br_t rfl ?_)
    exact aj_ycode hm hp
  | succ d ih =>
    intro j n hj hn
    obtain ⟨w, rfl⟩ : ∃ w, n = w + 1 := ⟨n - 1, by omega⟩
    have hj2 : j < 32768 := by omega
    refine br_f (nI_ge (b := 32768) hj2 (by decide)) ?_
    refine aj_yans hj2 ?_
    have hw := ih (j + 1) w (by omega) (by omega)
    rcases aj_A01 R j with z | z
    · rw [z]
      rw [aj_sm_s, z, Nat.add_zero] at hw
      exact br_t rfl (nm_r (nI_1 j) hw)
    · rw [z]
      rw [aj_sm_s, z] at hw
      have h1 : aj_sm (aj_A R) (j + 1) ≤ aj_sm (aj_A R) m := aj_sm_mono (by omega)
      rw [aj_sm_s, z] at h1
      have h2 := aj_Sle R (m := m) (by omega)
      have hne : ¬ nI (aj_sm (aj_A R) j) = nI (aj_sm (aj_A R) m) := fun e => by
        have := (nI_eq (by omega) (by omega)).mp e
        omega
      exact br_f (by decide) (br_f hne (nm_r (nI_1 _) (nm_r (nI_1 j) hw)))
theorem aj_yans0 {post : Int32 → Prop} {R C S : Nat → Int32} (x : Int32) (hx : ∀ j, j < 32768 → aj_A R j = 1 → ¬ nI (aj_sm (aj_A R) j) = x) (hp : post (-4)) :
    ∀ d j n, j + d = 32768 → d < n → wY_answer_4 post x R C S n (nI (aj_sm (aj_A R) j)) (nI j) := by
  intro d
  induction d with
  | zero =>
    intro j n hj hn
    obtain ⟨w, rfl⟩ : ∃ w, n = w + 1 := ⟨n - 1, by omega⟩
    exact br_t (nI_le (a := 32768) (by omega) (by omega)) hp
  | succ d ih =>
    intro j n hj hn
    obtain ⟨w, rfl⟩ : ∃ w, n = w + 1 := ⟨n - 1, by omega⟩
    have hj2 : j < 32768 := by omega
    refine br_f (nI_ge (b := 32768) hj2 (by decide)) ?_
    refine aj_yans hj2 ?_
    have hw := ih (j + 1) w (by omega) (by omega)
    rcases aj_A01 R j with z | z
    · rw [z]
      rw [aj_sm_s, z, Nat.add_zero] at hw
      exact br_t rfl (nm_r (nI_1 j) hw)
    · rw [z]
      rw [aj_sm_s, z] at hw
      exact br_f (by decide) (br_f (hx j hj2 z) (nm_r (nI_1 _) (nm_r (nI_1 j) hw)))
theorem i_vc_answer {k : Nat} {u : SX} {v : SY} (I : i_Rel k u v) (hk : k + 4 ≤ 2048) (v1 : Int32) : wpX_answer (fun r => wpY_answer (fun r' => r' = r ∧ i_Rel (k + 4) u v) v v1) u v1 := by
  have I' := I
  obtain ⟨C, S, rfl, hC⟩ := I
  have hS := aj_Sle u (Nat.le_refl 32768)
  have no : ∀ x : Int32, (∀ j, j < 32768 → aj_A u j = 1 → ¬ nI (aj_sm (aj_A u) j) = x) → wpY_answer (fun r' => r' = -4 ∧ i_Rel (k + 4) u (u, C, S)) (u, C, S) x := by
    intro x hx
    unfold wpY_answer
    dsimp only
    exact ⟨32769, aj_yans0 x hx ⟨rfl, I'⟩ 32768 0 32769 (by omega) (by omega)⟩
  unfold wpX_answer
  by_cases hneg : v1 < 0
  · refine br_t hneg (no v1 (fun j hj _ e => ?_))
    have h2 := aj_Sle u (m := j) (by omega)
    rw [← e] at hneg
    exact nI_pos (by omega) hneg
  · refine br_f hneg ?_
    obtain ⟨q, hq, rfl⟩ := nI_of hneg
    unfold wpX_count
    refine aj_mat u none none none none none True.intro True.intro True.intro True.intro True.intro ?_
    rw [aj_MV_count]
    refine pk_lt q (aj_sm (aj_A u) 32768) (fun hlt => ?_) (fun hge => ?_)
    · refine ⟨6, ?_⟩
      refine aj_xans22 u q hq ?_ 5 0 6 0 q (by omega) (by omega) (by decide) ?_ ?_
      · intro e he h1 h2
        have hm : aj_rv 5 e < 32768 := aj_rv_lt 5 e
        rw [aj_sm_s] at h2
        have h3 := aj_A_le u (aj_rv 5 e)
        have hA : aj_A u (aj_rv 5 e) = 1 := by omega
        have hS2 : q = aj_sm (aj_A u) (aj_rv 5 e) := by omega
        unfold wpY_answer
        dsimp only
        rw [hS2]
        exact ⟨aj_rv 5 e + 1, aj_yans1 (aj_rv 5 e) hm hA ⟨by rw [aj_cdrv he], I'⟩ (aj_rv 5 e) 0 _ (by omega) (by omega)⟩
      · show q + aj_sm (aj_A u) (0 * 8 ^ (5 - 0)) = q
        rw [Nat.zero_mul]
        rfl
      · exact hlt
    · refine no (nI q) (fun j hj hA e => ?_)
      have h1 : aj_sm (aj_A u) (j + 1) ≤ aj_sm (aj_A u) 32768 := aj_sm_mono (by omega)
      rw [aj_sm_s, hA] at h1
      have := (nI_eq (by omega) (by omega)).mp e
      omega
