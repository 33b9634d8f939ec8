/-! the law's small methods; the texts that it types -/
/-- what low(a, N) answers -/
def lo_ (a : Int32) (N : Nat) : Nat := a.toBitVec.toNat % 2 ^ 31 % N
theorem lo_lt (a : Int32) {N : Nat} (h : 0 < N) : lo_ a N < N := Nat.mod_lt _ h
section SMALL
variable {h : Hp} {K : Int32 → Hp → Prop}
theorem w_low {a : Int32} {N : Nat} (hN : 0 < N) (h2 : N < 2 ^ 31) (kk : K (nI (lo_ a N)) h) : V_L_low a (nI N) h K := by
  refine ⟨nI_ne0 hN h2, ?_⟩
  have hl : a.toBitVec.toNat % 2 ^ 31 < 2 ^ 31 := Nat.mod_lt _ (by decide)
  rw [pk_and a (m := 2147483647) 31 (by decide), pk_rem hl hN h2]
  exact kk
theorem w_width {s : Nat} (hs : s < 29) (kk : K (wd s) h) : V_L_width (nI s) h K := by
  unfold V_L_width V_L_width_35
  rw [c26 (by omega), q26 (by omega), show nI s = (27 : Int32) ↔ s = 27 from nI_eq (b := 27) (by omega) (by decide), show nI s - nI s / 5 * 5 = nI (s % 5) from pk_rem (d := 5) (by omega) (by decide) (by decide)]
  unfold wd at kk
  refine ⟨fun z => ⟨fun z2 => ⟨fun z3 => ?_, fun z3 => ?_⟩, fun z2 => ?_⟩, fun z => ?_⟩
  · rwa [if_neg (by omega), if_neg z2, if_neg z3] at kk
  · rwa [if_neg (by omega), if_neg z2, if_pos z3] at kk
  · rwa [if_neg (by omega), if_pos z2] at kk
  · rwa [if_pos (by omega)] at kk
theorem w_wideL {s : Nat} (hs : s < 26) (kk : K (wd s) h) : V_L_wide (nI (97 + s)) h K := by
  unfold V_L_wide V_L_wide_20
  refine ⟨fun z => absurd z ?_, fun _ => ?_⟩
  · show ¬ nI (97 + s) < nI 97
    exact nI_nlt (by omega) (by omega)
  · rw [show nI (97 + s) - 97 = nI (97 + s - 97) from pk_sub (b := 97) (by omega), show 97 + s - 97 = s by omega]
    exact w_width (by omega) kk
theorem w_wideD {v w : Int32} (h97 : v < 97) (e : v - 48 = w) (kk : K w h) : V_L_wide v h K := by
  unfold V_L_wide V_L_wide_20
  rw [e]
  exact ⟨fun _ => kk, fun z => absurd h97 z⟩
theorem w_cell {i : Nat} (hi : i < 2 ^ 31) (kk : ∀ v, K v h) : V_L_cell (nI i) h K := by
  unfold V_L_cell V_L_cell_20
  refine fun N => ⟨fun _ => kk _, fun z => ⟨?_, fun v => kk v⟩⟩
  rintro (w | w)
  · exact cn0 hi w
  · rw [nI_clamp hi] at w
    exact z ((nle (by omega) hi).mpr w)
end SMALL
theorem cn_nI {m : Nat} (h : m < 65536) : cn (nI m) = nI m := by
  unfold cn
  rw [pk_char, pk_tn (by omega), Nat.mod_eq_of_lt h]
/-- a text without a fault has none -/
theorem flt_ok {tx : Nat → Int32} : ∀ (d : Nat) (want : Bool) (i : Nat), (∀ x, i ≤ x → x < i + d → isL (tx x) ∨ ((tx x = 32 ∨ tx x = 47) ∧ (x = i → want = false) ∧ (i < x → isL (tx (x - 1))))) → (d = 0 → want = false) → (0 < d → isL (tx (i + d - 1))) → flt tx d want i = none := by
  intro d
  induction d with
  | zero =>
    intro want i _ h2 _
    rw [h2 rfl]; rfl
  | succ d ih =>
    intro want i h1 h2 h3
    unfold flt
    by_cases e : isL (tx i)
    · rw [if_pos e]
      refine ih false (i + 1) (fun x a b => ?_) (fun _ => rfl) (fun hd => ?_)
      · rcases h1 x (by omega) (by omega) with z | ⟨z1, z2, z3⟩
        · exact Or.inl z
        · exact Or.inr ⟨z1, fun _ => rfl, fun _ => z3 (by omega)⟩
      · have := h3 (by omega)
        rwa [show i + (d + 1) - 1 = i + 1 + d - 1 by omega] at this
    · rw [if_neg e]
      rcases h1 i (by omega) (by omega) with z | ⟨z1, z2, z3⟩
      · exact absurd z e
      · rw [if_neg (fun w => w.elim (fun w => by rw [z2 rfl] at w; cases w) (fun w => w z1))]
        refine ih true (i + 1) (fun x a b => ?_) (fun hd => ?_) (fun hd => ?_)
        · rcases h1 x (by omega) (by omega) with w | ⟨w1, w2, w3⟩
          · exact Or.inl w
          · refine Or.inr ⟨w1, fun ex => ?_, fun _ => w3 (by omega)⟩
            have := w3 (by omega)
            rw [ex, show i + 1 - 1 = i by omega] at this
            exact absurd this e
        · have := h3 (by omega)
          rw [hd, show i + (0 + 1) - 1 = i by omega] at this
          exact absurd this e
        · have := h3 (by omega)
          rwa [show i + (d + 1) - 1 = i + 1 + d - 1 by omega] at this
theorem FF.flt0 {tx : Nat → Int32} {len : Nat} (f : FF tx len) : flt tx len true 0 = none := by
  obtain ⟨f1, f2, f3, f4⟩ := f
  refine flt_ok len true 0 (fun x _ b => ?_) (fun z => by omega) (fun _ => by rw [show 0 + len - 1 = len - 1 by omega]; exact f3)
  rcases f4 x (by omega) with z | ⟨z1, z2, z3⟩
  · exact Or.inl z
  · exact Or.inr ⟨z1, fun e => by omega, fun _ => z3⟩
/-- a text grows -/
theorem FF.mark {tx ty : Nat → Int32} {t : Nat} {m : Int32} {r : Nat} (f : FF tx t) (ht : t + 2 ≤ 60) (hm : m = 32 ∨ m = 47) (hr : r < 26) (e : ∀ i, i < t → ty i = tx i) (e1 : ty t = m) (e2 : ty (t + 1) = nI (97 + r)) (hl : isL (nI (97 + r))) : FF ty (t + 2) := by
  obtain ⟨f1, f2, f3, f4⟩ := f
  refine ⟨by omega, ht, by rw [show t + 2 - 1 = t + 1 by omega, e2]; exact hl, fun x hx => ?_⟩
  by_cases c1 : x < t
  · rw [e x c1]
    rcases f4 x c1 with z | ⟨z1, z2, z3⟩
    · exact Or.inl z
    · exact Or.inr ⟨z1, z2, by rw [e _ (by omega)]; exact z3⟩
  · by_cases c2 : x = t
    · rw [c2, e1]
      exact Or.inr ⟨hm, f1, by rw [e _ (by omega)]; exact f3⟩
    · rw [show x = t + 1 by omega, e2]; exact Or.inl hl
theorem FF.lett {tx ty : Nat → Int32} {t : Nat} {r : Nat} (f : t = 0 ∨ FF tx t) (ht : t + 1 ≤ 60) (e : ∀ i, i < t → ty i = tx i) (e1 : ty t = nI (97 + r)) (hl : isL (nI (97 + r))) : FF ty (t + 1) := by
  refine ⟨by omega, ht, by rw [show t + 1 - 1 = t by omega, e1]; exact hl, fun x hx => ?_⟩
  by_cases c1 : x < t
  · rw [e x c1]
    rcases f with z | ⟨f1, f2, f3, f4⟩
    · omega
    · rcases f4 x c1 with z | ⟨z1, z2, z3⟩
      · exact Or.inl z
      · exact Or.inr ⟨z1, z2, by rw [e _ (by omega)]; exact z3⟩
  · rw [show x = t by omega, e1]; exact Or.inl hl
theorem isL_n {r : Nat} (h : r < 26) : isL (nI (97 + r)) := by
  rintro (z | z)
  · exact nI_nlt (a := 97 + r) (b := 97) (by omega) (by omega) z
  · exact nI_nlt (a := 122) (b := 97 + r) (by omega) (by omega) z
/-- σ with a sign typed -/
def tyS (σ : Nat → Nat → Int32) (t : Nat) (a : Int32) : Nat → Nat → Int32 := fun f => if f = 5 then (fun _ => nI (t + 1)) else if f = 6 then (fun i => if i = t then a else σ 6 i) else σ f
def clS (σ : Nat → Nat → Int32) : Nat → Nat → Int32 := fun f => if f = 5 then (fun _ => 0) else σ f
section TYPES
variable {h : Hp} {x k : Nat} {σ : Nat → Nat → Int32}
theorem w_type {K : Int32 → Hp → Prop} (C : CR h x σ k) {t v : Nat} (ht : t < 60) (h5 : σ 5 0 = nI t) (hv : v < 65536) (kk : ∀ h', CR h' x (tyS σ t (nI v)) k → K (nI (t + 1)) h') : hK h x = 7 ∧ V_X6_type x (nI v) h K := by
  refine ⟨C.1.kx, k_type C (by omega) h5 (nI v) (fun e => by omega) (fun _ h' _ c => kk h' (c _ (fun f hf => ?_) rfl (fun i => ?_) (fun f hf => ?_)))⟩
  · unfold tyS; rw [if_neg (by omega), if_neg (by omega)]
  · rw [cn_nI hv]; rfl
  · unfold tyS; rw [if_neg (by omega), if_neg (by omega)]
theorem w_clear {K : Int32 → Hp → Prop} (C : CR h x σ k) (kk : ∀ h', CR h' x (clS σ) k → K (σ 5 0) h') : hK h x = 7 ∧ V_X6_clearText x h K :=
  ⟨C.1.kx, k_clear C (fun h' _ c => kk h' (c _ (fun f hf => if_neg hf) rfl))⟩
variable {K : Hp → Prop}
/-- where types is: i letters are typed -/
def TyR (σ0 : Nat → Nat → Int32) (i : Nat) (σ : Nat → Nat → Int32) : Prop := (∀ f, f ≠ 5 → f ≠ 6 → σ f = σ0 f) ∧ ∃ t, t ≤ 2 * i ∧ σ 5 0 = nI t ∧ ((i = 0 ∧ t = 0) ∨ (0 < i ∧ FF (σ 6) t))
theorem ty_74 {σ0 : Nat → Nat → Int32} {C : Nat → Int32 → Int32 → Int32 → Int32 → Int32 → Hp → Prop} {a1 a2 a3 : Int32} {i : Nat} (hi : i < 14) (C0 : CR h x σ k) (R : ∃ t, t < 60 ∧ σ 5 0 = nI t ∧ (∀ f, f ≠ 5 → f ≠ 6 → σ f = σ0 f) ∧ ∀ r, r < 26 → ∀ ty : Nat → Int32, (∀ i, i < t → ty i = σ 6 i) → ty t = nI (97 + r) → t + 1 ≤ 2 * (i + 1) ∧ FF ty (t + 1))
    (hC : ∀ h' σ', CR h' x σ' k → TyR σ0 (i + 1) σ' → C x a1 a2 a3 1 (nI (i + 1)) h') : V_L_types_74 K C x a1 a2 a3 (nI i) h := by
  unfold V_L_types_74
  refine w_low (N := 6) (by decide) (by decide) ?_
  have hl := lo_lt (a2 >>> (nI i &&& 31)) (N := 6) (by decide)
  rw [show (97 : Int32) + nI (lo_ (a2 >>> (nI i &&& 31)) 6) = nI (97 + lo_ (a2 >>> (nI i &&& 31)) 6) from nI_add 97 _, cn_nI (by omega)]
  obtain ⟨t, t1, t2, t3, t4⟩ := R
  refine w_type C0 t1 t2 (by omega) (fun h' c' => ?_)
  rw [nI_1]
  refine hC h' _ c' ⟨fun f f5 f6 => ?_, t + 1, ?_⟩
  · unfold tyS; rw [if_neg f5, if_neg f6]; exact t3 f f5 f6
  · have e := t4 _ (show lo_ (a2 >>> (nI i &&& 31)) 6 < 26 by omega) (tyS σ t (nI (97 + lo_ (a2 >>> (nI i &&& 31)) 6)) 6) (fun q hq => if_neg (by omega)) (if_pos rfl)
    exact ⟨e.1, rfl, Or.inr ⟨by omega, e.2⟩⟩
theorem ty_69 {σ0 : Nat → Nat → Int32} {C : Nat → Int32 → Int32 → Int32 → Int32 → Int32 → Hp → Prop} {a1 a2 a3 : Int32} {i m : Nat} (hi : i < 14) (C0 : CR h x σ k) (hm : m = 32 ∨ m = 47) (R : TyR σ0 i σ) (h0 : 0 < i) (hC : ∀ h' σ', CR h' x σ' k → TyR σ0 (i + 1) σ' → C x a1 a2 a3 1 (nI (i + 1)) h') : V_L_types_69 K C x a1 a2 a3 (nI i) x (nI m) h := by
  obtain ⟨r1, t, r2, r3, r4⟩ := R
  have f := (r4.resolve_left (fun z => by omega)).2
  refine w_type C0 (by omega) r3 (by omega) (fun h' c' => ty_74 hi c' ⟨t + 1, by omega, rfl, fun f f5 f6 => ?_, fun r hr ty e1 e2 => ⟨by omega, ?_⟩⟩ hC)
  · show (if f = 5 then _ else if f = 6 then _ else σ f) = _
    rw [if_neg f5, if_neg f6]; exact r1 f f5 f6
  · refine f.mark (m := nI m) (by omega) (by rcases hm with z | z <;> subst z <;> decide) hr (fun q hq => ?_) ?_ e2 (isL_n hr)
    · rw [e1 q (by omega)]; exact if_neg (by omega)
    · rw [e1 t (by omega)]; exact if_pos rfl
theorem ty_21 {σ0 : Nat → Nat → Int32} {a1 a2 : Int32} {N : Nat} (hN : 0 < N) (h14 : N ≤ 14) (hK : ∀ h' σ' t, CR h' x σ' k → (∀ f, f ≠ 5 → f ≠ 6 → σ' f = σ0 f) → t ≤ 60 → σ' 5 0 = nI t → FF (σ' 6) t → K h') : ∀ (d i n : Nat) (h : Hp) (σ : Nat → Nat → Int32), i + d = N → d < n → CR h x σ k → TyR σ0 i σ → V_L_types_21 K n x a1 a2 (nI N) (if i = 0 then 0 else 1) (nI i) h := by
  intro d
  induction d with
  | zero =>
    intro i n h σ h1 h2 C R
    obtain ⟨n, rfl⟩ : ∃ m, n = m + 1 := ⟨n - 1, by omega⟩
    obtain rfl : i = N := by omega
    obtain ⟨r1, t, r2, r3, r4⟩ := R
    exact ⟨fun _ => hK h σ t C r1 (by omega) r3 (r4.resolve_left (fun z => by omega)).2, fun z => absurd (Int32.le_refl _) z⟩
  | succ d ih =>
    intro i n h σ h1 h2 C R
    obtain ⟨n, rfl⟩ : ∃ m, n = m + 1 := ⟨n - 1, by omega⟩
    have go : ∀ h' σ', CR h' x σ' k → TyR σ0 (i + 1) σ' → V_L_types_21 K n x a1 a2 (nI N) 1 (nI (i + 1)) h' := fun h' σ' c r => by
      have := ih (i + 1) n h' σ' (by omega) (by omega) c r
      rwa [if_neg (by omega)] at this
    unfold V_L_types_21
    rw [nle (by omega) (by omega)]
    refine ⟨fun z => absurd z (by omega), fun _ => ⟨fun z => ?_, fun z => ?_⟩⟩
    · obtain ⟨r1, t, r2, r3, r4⟩ := R
      refine ty_74 (by omega) C ⟨t, by omega, r3, r1, fun r hr ty e1 e2 => ⟨by omega, FF.lett (r4.imp (fun w => w.2) (fun w => w.2)) (by omega) e1 e2 (isL_n hr)⟩⟩ go
    · have h0 : 0 < i := by
        by_cases e : i = 0
        · rw [if_pos e] at z; exact absurd rfl z
        · omega
      refine ⟨fun _ => ?_, fun _ => ⟨fun _ => ?_, fun _ => ?_⟩⟩
      · obtain ⟨r1, t, r2, r3, r4⟩ := R
        refine ty_74 (by omega) C ⟨t, by omega, r3, r1, fun r hr ty e1 e2 => ⟨by omega, FF.lett (r4.imp (fun w => w.2) (fun w => w.2)) (by omega) e1 e2 (isL_n hr)⟩⟩ go
      · exact ty_69 (m := 32) (by omega) C (Or.inl rfl) R h0 go
      · exact ty_69 (m := 47) (by omega) C (Or.inr rfl) R h0 go
theorem w_types (C : CR h x σ k) (a1 a2 : Int32) (hK : ∀ h' σ' t, CR h' x σ' k → (∀ f, f ≠ 5 → f ≠ 6 → σ' f = σ f) → t ≤ 60 → σ' 5 0 = nI t → FF (σ' 6) t → K h') : V_L_types x a1 a2 h K := by
  unfold V_L_types
  refine w_low (N := 14) (by decide) (by decide) (w_clear C (fun h' c => ⟨16, ?_⟩))
  have hl := lo_lt a1 (N := 14) (by decide)
  rw [show (1 : Int32) + nI (lo_ a1 14) = nI (1 + lo_ a1 14) from nI_add 1 _]
  exact ty_21 (σ0 := σ) (by omega) (by omega) hK (1 + lo_ a1 14) 0 16 h' _ (by omega) (by omega) c ⟨fun f f5 f6 => if_neg f5, 0, by omega, rfl, Or.inl ⟨rfl, rfl⟩⟩
end TYPES
