/-! the reference's calls: sums over cases and jobs, texts, history -/
section MPUB3
variable {h0 h : Hp} {m : Nat} {σ : Nat → Nat → Int32} {K : Int32 → Hp → Prop} {k : Nat}
theorem nle {nc i : Nat} (h1 : nc < 2 ^ 31) (h2 : i < 2 ^ 31) : nI nc ≤ nI i ↔ nc ≤ i := nI_leI h1 h2
theorem s_oj (x : MB h0 m σ h) {j : Nat} (hj : j < 12) (w : Nat) (hw : w < 272) {v : Int32} (hv : v = nI w) : V_X7_ofJob m (nI j) v h K ↔ K (σ 0 (211 + 272 * j + w)) h := by rw [hv]; exact s_ofJob x hj hw
def fterm (ρ : Row) (j : Nat) (a2 : Int32) (c s : Nat) : Int32 := if a2 = 0 then fm ρ j c s else if nI c = jb ρ j 0 then 0 else fm ρ j c s
theorem s_if19 (x : MB h0 m σ h) {j c : Nat} (hj : j < 12) (hc : c < 6) (a2 A : Int32) {C5 : Nat → Int32 → Int32 → Int32 → Int32 → Hp → Prop} (hC : C5 m (nI j) a2 (A + sm 29 (fterm (σ 0) j a2 c)) (nI (c + 1)) h) :
    ∀ (d s n : Nat), s + d = 29 → d < n → V_X7_inFormeOf_19 K C5 n m (nI j) a2 (A + sm s (fterm (σ 0) j a2 c)) (nI c) (nI s) h := by
  intro d
  induction d with
  | zero =>
    intro i n h1 h2
    obtain ⟨n, rfl⟩ : ∃ k, n = k + 1 := ⟨n - 1, by omega⟩
    obtain rfl : i = 29 := by omega
    unfold V_X7_inFormeOf_19
    rw [nI_1]
    exact ⟨fun _ => hC, fun q => absurd (by decide) q⟩
  | succ d ih =>
    intro i n h1 h2
    obtain ⟨n, rfl⟩ : ∃ k, n = k + 1 := ⟨n - 1, by omega⟩
    have go := ih (i + 1) n (by omega) (by omega)
    rw [smS, ← Int32.add_assoc] at go
    unfold V_X7_inFormeOf_19 V_X7_inFormeOf_46 V_X7_inFormeOf_55
    rw [c29 (by omega)]
    simp only [nI_1]
    refine ⟨fun q => absurd q (by omega), fun _ => ?_⟩
    rw [s_oj x hj 0 (by decide) (v := 0) rfl]
    simp only [s_inForme x hj hc (show i < 29 by omega), x.s, true_and]
    refine ⟨fun q => ?_, fun q => ⟨fun z => ?_, fun z => ?_⟩⟩
    · rw [show fterm (σ 0) j a2 c i = fm (σ 0) j c i from if_pos q] at go
      exact go
    · rw [show fterm (σ 0) j a2 c i = fm (σ 0) j c i from (if_neg q).trans (if_neg z)] at go
      exact go
    · rw [show fterm (σ 0) j a2 c i = 0 from (if_neg q).trans (if_pos z)] at go
      exact go
theorem s_if5 (x : MB h0 m σ h) {j nc : Nat} (hj : j < 12) (hn : σ 0 0 = nI nc) (h6 : nc ≤ 6) (a2 : Int32) (hK : K (sm nc (fun c => sm 29 (fterm (σ 0) j a2 c))) h) :
    ∀ (d c n : Nat), c + d = nc → d < n → V_X7_inFormeOf_5 K n m (nI j) a2 (sm c (fun c => sm 29 (fterm (σ 0) j a2 c))) (nI c) h := by
  intro d
  induction d with
  | zero =>
    intro i n h1 h2
    obtain ⟨n, rfl⟩ : ∃ k, n = k + 1 := ⟨n - 1, by omega⟩
    obtain rfl : i = nc := by omega
    unfold V_X7_inFormeOf_5
    simp only [x.s, LT, true_and, hn]
    rw [nle (by omega) (by omega)]
    exact ⟨fun _ => hK, fun q => absurd (Nat.le_refl _) q⟩
  | succ d ih =>
    intro i n h1 h2
    obtain ⟨n, rfl⟩ : ∃ k, n = k + 1 := ⟨n - 1, by omega⟩
    unfold V_X7_inFormeOf_5
    simp only [x.s, LT, true_and, hn]
    rw [nle (by omega) (by omega)]
    refine ⟨fun q => absurd q (by omega), fun _ => ⟨30, ?_⟩⟩
    have := s_if19 (K := K) x hj (show i < 6 by omega) a2 (sm i (fun c => sm 29 (fterm (σ 0) j a2 c))) (C5 := V_X7_inFormeOf_5 K n) (ih (i + 1) n (by omega) (by omega)) 29 0 30 rfl (by decide)
    rw [sm0, Int32.add_zero] at this
    exact this
theorem s_inFormeOf (x : MB h0 m σ h) {j nc : Nat} (hj : j < 12) (hn : σ 0 0 = nI nc) (h6 : nc ≤ 6) (a2 : Int32) (hK : K (sm nc (fun c => sm 29 (fterm (σ 0) j a2 c))) h) : V_X7_inFormeOf m (nI j) a2 h K :=
  ⟨nc + 1, s_if5 x hj hn h6 a2 hK nc 0 (nc + 1) (by omega) (by omega)⟩
/-! sums over cases and jobs -/
theorem s_cm16 (x : MB h0 m σ h) {c : Nat} (hc : c < 6) (A : Int32) {C4 : Nat → Int32 → Int32 → Hp → Prop} (hC : C4 m (A + sm 29 (fun s => σ 0 (8 + 29 * c + s) * wd s)) (nI (c + 1)) h) :
    ∀ (d s n : Nat), s + d = 29 → d < n → V_X7_caseMetal_16 K C4 n m (A + sm s (fun s => σ 0 (8 + 29 * c + s) * wd s)) (nI c) (nI s) h := by
  intro d
  induction d with
  | zero =>
    intro i n h1 h2
    obtain ⟨n, rfl⟩ : ∃ k, n = k + 1 := ⟨n - 1, by omega⟩
    obtain rfl : i = 29 := by omega
    unfold V_X7_caseMetal_16
    rw [nI_1]
    exact ⟨fun _ => hC, fun q => absurd (by decide) q⟩
  | succ d ih =>
    intro i n h1 h2
    obtain ⟨n, rfl⟩ : ∃ k, n = k + 1 := ⟨n - 1, by omega⟩
    have go := ih (i + 1) n (by omega) (by omega)
    rw [smS, ← Int32.add_assoc] at go
    unfold V_X7_caseMetal_16
    rw [c29 (by omega)]
    simp only [nI_1]
    simp only [s_has x hc (show i < 29 by omega), s_width (show i < 29 by omega), x.s, true_and]
    exact ⟨fun q => absurd q (by omega), fun _ => go⟩
theorem s_cm4 (x : MB h0 m σ h) {nc : Nat} (hn : σ 0 0 = nI nc) (h6 : nc ≤ 6) (hK : K (caseM (σ 0) nc) h) :
    ∀ (d c n : Nat), c + d = nc → d < n → V_X7_caseMetal_4 K n m (caseM (σ 0) c) (nI c) h := by
  intro d
  induction d with
  | zero =>
    intro i n h1 h2
    obtain ⟨n, rfl⟩ : ∃ k, n = k + 1 := ⟨n - 1, by omega⟩
    obtain rfl : i = nc := by omega
    unfold V_X7_caseMetal_4
    simp only [x.s, LT, true_and, hn]
    rw [nle (by omega) (by omega)]
    exact ⟨fun _ => hK, fun q => absurd (Nat.le_refl _) q⟩
  | succ d ih =>
    intro i n h1 h2
    obtain ⟨n, rfl⟩ : ∃ k, n = k + 1 := ⟨n - 1, by omega⟩
    unfold V_X7_caseMetal_4
    simp only [x.s, LT, true_and, hn]
    rw [nle (by omega) (by omega)]
    refine ⟨fun q => absurd q (by omega), fun _ => ⟨30, ?_⟩⟩
    have := s_cm16 (K := K) x (show i < 6 by omega) (caseM (σ 0) i) (C4 := V_X7_caseMetal_4 K n) (ih (i + 1) n (by omega) (by omega)) 29 0 30 rfl (by decide)
    rw [sm0, Int32.add_zero] at this
    exact this
theorem s_caseMetal (x : MB h0 m σ h) {nc : Nat} (hn : σ 0 0 = nI nc) (h6 : nc ≤ 6) (hK : K (caseM (σ 0) nc) h) : V_X7_caseMetal m h K :=
  ⟨nc + 1, s_cm4 x hn h6 hK nc 0 (nc + 1) (by omega) (by omega)⟩
theorem s_fm29 (x : MB h0 m σ h) {j c : Nat} (hj : j < 12) (hc : c < 6) (A : Int32) {C4 : Nat → Int32 → Int32 → Hp → Prop} {C16 : Nat → Int32 → Int32 → Int32 → Hp → Prop} (hC : C16 m (A + sm 29 (fun s => fm (σ 0) j c s * wd s)) (nI j) (nI (c + 1)) h) :
    ∀ (d s n : Nat), s + d = 29 → d < n → V_X7_formeMetal_29 K C4 C16 n m (A + sm s (fun s => fm (σ 0) j c s * wd s)) (nI j) (nI c) (nI s) h := by
  intro d
  induction d with
  | zero =>
    intro i n h1 h2
    obtain ⟨n, rfl⟩ : ∃ k, n = k + 1 := ⟨n - 1, by omega⟩
    obtain rfl : i = 29 := by omega
    unfold V_X7_formeMetal_29
    rw [nI_1]
    exact ⟨fun _ => hC, fun q => absurd (by decide) q⟩
  | succ d ih =>
    intro i n h1 h2
    obtain ⟨n, rfl⟩ : ∃ k, n = k + 1 := ⟨n - 1, by omega⟩
    have go := ih (i + 1) n (by omega) (by omega)
    rw [smS, ← Int32.add_assoc] at go
    unfold V_X7_formeMetal_29
    rw [c29 (by omega)]
    simp only [nI_1]
    simp only [s_inForme x hj hc (show i < 29 by omega), s_width (show i < 29 by omega), x.s, true_and]
    exact ⟨fun q => absurd q (by omega), fun _ => go⟩
theorem s_fm16 (x : MB h0 m σ h) {j nc : Nat} (hj : j < 12) (hn : σ 0 0 = nI nc) (h6 : nc ≤ 6) (A : Int32) {C4 : Nat → Int32 → Int32 → Hp → Prop} (hC : C4 m (A + sm nc (fun c => sm 29 (fun s => fm (σ 0) j c s * wd s))) (nI (j + 1)) h) :
    ∀ (d c n : Nat), c + d = nc → d < n → V_X7_formeMetal_16 K C4 n m (A + sm c (fun c => sm 29 (fun s => fm (σ 0) j c s * wd s))) (nI j) (nI c) h := by
  intro d
  induction d with
  | zero =>
    intro i n h1 h2
    obtain ⟨n, rfl⟩ : ∃ k, n = k + 1 := ⟨n - 1, by omega⟩
    obtain rfl : i = nc := by omega
    unfold V_X7_formeMetal_16
    simp only [x.s, LT, true_and, hn]
    rw [nle (by omega) (by omega), nI_1]
    exact ⟨fun _ => hC, fun q => absurd (Nat.le_refl _) q⟩
  | succ d ih =>
    intro i n h1 h2
    obtain ⟨n, rfl⟩ : ∃ k, n = k + 1 := ⟨n - 1, by omega⟩
    unfold V_X7_formeMetal_16
    simp only [x.s, LT, true_and, hn]
    rw [nle (by omega) (by omega)]
    refine ⟨fun q => absurd q (by omega), fun _ => ⟨30, ?_⟩⟩
    have go := ih (i + 1) n (by omega) (by omega)
    rw [smS, ← Int32.add_assoc] at go
    have := s_fm29 (K := K) x hj (show i < 6 by omega) (A + sm i (fun c => sm 29 (fun s => fm (σ 0) j c s * wd s))) (C4 := C4) (C16 := V_X7_formeMetal_16 K C4 n) go 29 0 30 rfl (by decide)
    rw [sm0, Int32.add_zero] at this
    exact this
theorem s_fm4 (x : MB h0 m σ h) {nc nj : Nat} (hn : σ 0 0 = nI nc) (h6 : nc ≤ 6) (hj : σ 0 1 = nI nj) (h12 : nj ≤ 12) (hK : K (formeM (σ 0) nc nj) h) :
    ∀ (d j n : Nat), j + d = nj → d < n → V_X7_formeMetal_4 K n m (formeM (σ 0) nc j) (nI j) h := by
  intro d
  induction d with
  | zero =>
    intro i n h1 h2
    obtain ⟨n, rfl⟩ : ∃ k, n = k + 1 := ⟨n - 1, by omega⟩
    obtain rfl : i = nj := by omega
    unfold V_X7_formeMetal_4
    simp only [x.s, LT, true_and, hj]
    rw [nle (by omega) (by omega)]
    exact ⟨fun _ => hK, fun q => absurd (Nat.le_refl _) q⟩
  | succ d ih =>
    intro i n h1 h2
    obtain ⟨n, rfl⟩ : ∃ k, n = k + 1 := ⟨n - 1, by omega⟩
    unfold V_X7_formeMetal_4
    simp only [x.s, LT, true_and, hj]
    rw [nle (by omega) (by omega)]
    refine ⟨fun q => absurd q (by omega), fun _ => ⟨nc + 1, ?_⟩⟩
    have := s_fm16 (K := K) x (show i < 12 by omega) hn h6 (formeM (σ 0) nc i) (C4 := V_X7_formeMetal_4 K n) (ih (i + 1) n (by omega) (by omega)) nc 0 (nc + 1) (by omega) (by omega)
    rw [sm0, Int32.add_zero] at this
    exact this
theorem s_formeMetal (x : MB h0 m σ h) {nc nj : Nat} (hn : σ 0 0 = nI nc) (h6 : nc ≤ 6) (hj : σ 0 1 = nI nj) (h12 : nj ≤ 12) (hK : K (formeM (σ 0) nc nj) h) : V_X7_formeMetal m h K :=
  ⟨nj + 1, s_fm4 x hn h6 hj h12 hK nj 0 (nj + 1) (by omega) (by omega)⟩
theorem s_late4 (x : MB h0 m σ h) {nj : Nat} (hj : σ 0 1 = nI nj) (h12 : nj ≤ 12) (hK : K (lateD (σ 0) nj) h) :
    ∀ (d j n : Nat), j + d = nj → d < n → V_X7_lateDays_4 K n m (lateD (σ 0) j) (nI j) h := by
  intro d
  induction d with
  | zero =>
    intro i n h1 h2
    obtain ⟨n, rfl⟩ : ∃ k, n = k + 1 := ⟨n - 1, by omega⟩
    obtain rfl : i = nj := by omega
    unfold V_X7_lateDays_4
    simp only [x.s, LT, true_and, hj]
    rw [nle (by omega) (by omega)]
    exact ⟨fun _ => hK, fun q => absurd (Nat.le_refl _) q⟩
  | succ d ih =>
    intro i n h1 h2
    obtain ⟨n, rfl⟩ : ∃ k, n = k + 1 := ⟨n - 1, by omega⟩
    have go := ih (i + 1) n (by omega) (by omega)
    rw [show lateD (σ 0) (i + 1) = lateD (σ 0) i + (if jb (σ 0) i 5 ≤ 0 then 0 else jb (σ 0) i 5) from rfl] at go
    unfold jb at go
    unfold V_X7_lateDays_4 V_X7_lateDays_34
    simp only [x.s, LT, true_and, hj]
    rw [nle (by omega) (by omega), nI_1]
    simp only [s_oj x (show i < 12 by omega) 5 (by decide) (v := 5) rfl, x.s, true_and]
    refine ⟨fun q => absurd q (by omega), fun _ => ⟨fun q => ?_, fun q => ?_⟩⟩
    · rw [if_pos q] at go; exact go
    · rw [if_neg q] at go; exact go
theorem s_lateDays (x : MB h0 m σ h) {nj : Nat} (hj : σ 0 1 = nI nj) (h12 : nj ≤ 12) (hK : K (lateD (σ 0) nj) h) : V_X7_lateDays m h K :=
  ⟨nj + 1, s_late4 x hj h12 hK nj 0 (nj + 1) (by omega) (by omega)⟩
theorem s_past4 (x : MB h0 m σ h) {nj : Nat} (hj : σ 0 1 = nI nj) (h12 : nj ≤ 12) (hK : K (pastD (σ 0) nj) h) :
    ∀ (d j n : Nat), j + d = nj → d < n → V_X7_pastDue_4 K n m (pastD (σ 0) j) (nI j) h := by
  intro d
  induction d with
  | zero =>
    intro i n h1 h2
    obtain ⟨n, rfl⟩ : ∃ k, n = k + 1 := ⟨n - 1, by omega⟩
    obtain rfl : i = nj := by omega
    unfold V_X7_pastDue_4
    simp only [x.s, LT, true_and, hj]
    rw [nle (by omega) (by omega)]
    exact ⟨fun _ => hK, fun q => absurd (Nat.le_refl _) q⟩
  | succ d ih =>
    intro i n h1 h2
    obtain ⟨n, rfl⟩ : ∃ k, n = k + 1 := ⟨n - 1, by omega⟩
    have go := ih (i + 1) n (by omega) (by omega)
    rw [show pastD (σ 0) (i + 1) = pastD (σ 0) i + (if jb (σ 0) i 3 < 0 ∨ 1 < jb (σ 0) i 3 then 0 else if σ 0 3 ≤ jb (σ 0) i 2 then 0 else 1) from rfl] at go
    unfold jb at go
    unfold V_X7_pastDue_4 V_X7_pastDue_42 V_X7_pastDue_43
    simp only [x.s, LT, true_and, hj]
    rw [nle (by omega) (by omega), nI_1]
    simp only [s_isToDo x (show i < 12 by omega), s_oj x (show i < 12 by omega) 2 (by decide) (v := 2) rfl, x.s, LT, true_and]
    refine ⟨fun q => absurd q (by omega), fun _ => ?_⟩
    by_cases t : σ 0 (211 + 272 * i + 3) < 0 ∨ 1 < σ 0 (211 + 272 * i + 3)
    · rw [if_pos t] at go
      rw [if_pos t]
      exact ⟨fun _ => go, fun q => absurd rfl q⟩
    · rw [if_neg t] at go
      rw [if_neg t]
      refine ⟨fun q => absurd q ne01, fun _ => ⟨fun q => ?_, fun q => ?_⟩⟩
      · rw [if_pos q] at go; exact go
      · rw [if_neg q] at go; exact go
theorem s_pastDue (x : MB h0 m σ h) {nj : Nat} (hj : σ 0 1 = nI nj) (h12 : nj ≤ 12) (hK : K (pastD (σ 0) nj) h) : V_X7_pastDue m h K :=
  ⟨nj + 1, s_past4 x hj h12 hK nj 0 (nj + 1) (by omega) (by omega)⟩
theorem urg_of (ρ : Row) : ∀ j, urg ρ j = -5 ∨ ∃ i, i < j ∧ urg ρ j = nI i
  | 0 => Or.inl rfl
  | j + 1 => by
    unfold urg
    split
    · rcases urg_of ρ j with h | ⟨i, h1, h2⟩
      · exact Or.inl h
      · exact Or.inr ⟨i, by omega, h2⟩
    · split
      · exact Or.inr ⟨j, by omega, rfl⟩
      · split
        · rcases urg_of ρ j with h | ⟨i, h1, h2⟩
          · exact Or.inl h
          · exact Or.inr ⟨i, by omega, h2⟩
        · exact Or.inr ⟨j, by omega, rfl⟩
theorem s_urg5 (x : MB h0 m σ h) {nj : Nat} (hj : σ 0 1 = nI nj) (h12 : nj ≤ 12) (hK : K (urg (σ 0) nj) h) :
    ∀ (d j n : Nat), j + d = nj → d < n → V_X7_urgent_5 K n m (urg (σ 0) j) (nI j) h := by
  intro d
  induction d with
  | zero =>
    intro i n h1 h2
    obtain ⟨n, rfl⟩ : ∃ k, n = k + 1 := ⟨n - 1, by omega⟩
    obtain rfl : i = nj := by omega
    unfold V_X7_urgent_5
    simp only [x.s, LT, true_and, hj]
    rw [nle (by omega) (by omega)]
    exact ⟨fun _ => hK, fun q => absurd (Nat.le_refl _) q⟩
  | succ d ih =>
    intro i n h1 h2
    obtain ⟨n, rfl⟩ : ∃ k, n = k + 1 := ⟨n - 1, by omega⟩
    have go := ih (i + 1) n (by omega) (by omega)
    rw [show urg (σ 0) (i + 1) = (if jb (σ 0) i 3 < 0 ∨ 1 < jb (σ 0) i 3 then urg (σ 0) i else if urg (σ 0) i = -5 then nI i else if jb (σ 0) (ix (urg (σ 0) i)) 2 ≤ jb (σ 0) i 2 then urg (σ 0) i else nI i) from rfl] at go
    unfold jb at go
    unfold V_X7_urgent_5 V_X7_urgent_44 V_X7_urgent_48 V_X7_urgent_49
    simp only [x.s, LT, true_and, hj]
    rw [nle (by omega) (by omega), nI_1]
    simp only [s_isToDo x (show i < 12 by omega), s_oj x (show i < 12 by omega) 2 (by decide) (v := 2) rfl, x.s, LT, true_and]
    refine ⟨fun q => absurd q (by omega), fun _ => ?_⟩
    by_cases t : σ 0 (211 + 272 * i + 3) < 0 ∨ 1 < σ 0 (211 + 272 * i + 3)
    · rw [if_pos t] at go
      rw [if_pos t]
      exact ⟨fun _ => go, fun q => absurd rfl q⟩
    · rw [if_neg t] at go
      rw [if_neg t]
      refine ⟨fun q => absurd q ne01, fun _ => ⟨fun q => ?_, fun q => ?_⟩⟩
      · rw [if_pos q] at go; exact go
      · rw [if_neg q] at go
        rcases urg_of (σ 0) i with e | ⟨i', e1, e2⟩
        · exact absurd e q
        · rw [e2] at go ⊢
          rw [ix_nI (by omega)] at go
          rw [s_oj x (show i' < 12 by omega) 2 (by decide) (v := 2) rfl]
          refine ⟨fun z => ?_, fun z => ?_⟩
          · rw [if_pos z] at go; exact go
          · rw [if_neg z] at go; exact go
theorem m_urgent (x : MB h0 m σ h) {nj : Nat} (hj : σ 0 1 = nI nj) (h12 : nj ≤ 12) (hO : OM h0 m σ k K (no (urg (σ 0) nj))) : V_X7_urgent m h K :=
  ⟨nj + 1, s_urg5 x hj h12 (hO.no x Idle.rf) nj 0 (nj + 1) (by omega) (by omega)⟩
theorem m_count (x : MB h0 m σ h) {nc nj : Nat} (hn : σ 0 0 = nI nc) (h6 : nc ≤ 6) (hj : σ 0 1 = nI nj) (h12 : nj ≤ 12) (a : Int32) (hO : OM h0 m σ k K (no (sp_count (σ 0) nc nj (σ 2 0) (σ 5 0) a))) : V_X7_count m a h K := by
  have hK := hO.no x Idle.rf
  unfold sp_count at hK
  unfold V_X7_count
  simp only [x.s, LT, true_and]
  refine ⟨fun q => ?_, fun q => ?_, fun q => ?_, fun q => ?_, fun q => ?_, fun q => ?_, fun q => ?_, fun q => ?_, fun q => ?_, fun q => ?_, fun q => ?_, fun q => ?_, fun q => ?_, fun q => ?_, fun q => ?_, fun q => ?_, fun q => ?_⟩
  · rw [if_pos q] at hK; exact hK
  · simp only [q] at hK; exact hK
  · simp only [q] at hK; exact hK
  · simp only [q] at hK; exact s_caseMetal x hn h6 hK
  · simp only [q] at hK; exact s_formeMetal x hn h6 hj h12 hK
  · simp only [q] at hK; exact s_boxMetal x hK
  · simp only [q] at hK; exact hK
  · simp only [q] at hK; exact hK
  · simp only [q] at hK; exact hK
  · simp only [q] at hK; exact hK
  · simp only [q] at hK; exact s_inBox x hK
  · simp only [q] at hK; exact hK
  · simp only [q] at hK; exact s_lateDays x hj h12 hK
  · simp only [q] at hK; exact s_pastDue x hj h12 hK
  · simp only [q] at hK; exact hK
  · simp only [q] at hK; exact hK
  · rw [if_neg (by omega), if_neg (by omega), if_neg (by omega), if_neg (by omega), if_neg (by omega), if_neg (by omega), if_neg (by omega), if_neg (by omega), if_neg (by omega), if_neg (by omega), if_neg (by omega), if_neg (by omega), if_neg (by omega), if_neg (by omega), if_neg (by omega), if_neg (by omega)] at hK
    exact hK
end MPUB3
