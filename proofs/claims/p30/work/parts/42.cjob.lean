/-! the class's jobs, orders, layouts: what they hold, what they answer -/
theorem lay_ST {tx : Nat → Int32} {meas : Int32} {len : Nat} : ∀ i, ((lyI tx meas len i).2.1.1 = 0 → (lyI tx meas len i).1 = 0 ∧ (lyI tx meas len i).2.1.2.2.1 = 0) ∧ (0 < (lyI tx meas len i).2.1.1 → (lyI tx meas len i).2.2.1 0 = 0 ∧ (lyI tx meas len i).2.2.2.2.1 0 = 0 ∧ (lyI tx meas len i).1 = (lyI tx meas len i).2.2.2.1 ((lyI tx meas len i).2.1.1 - 1) + 1) ∧
    ∀ l, l + 1 < (lyI tx meas len i).2.1.1 → (lyI tx meas len i).2.2.1 (l + 1) = (lyI tx meas len i).2.2.2.1 l + 1 := by
  intro i
  induction i with
  | zero => exact ⟨fun _ => ⟨rfl, rfl⟩, fun h => absurd h (Nat.lt_irrefl 0), fun l hl => absurd hl (Nat.not_lt_zero _)⟩
  | succ i ih =>
    obtain ⟨h1, h2, h3⟩ := ih
    unfold lyI
    by_cases e : i = len ∨ tx i = 47
    · rw [if_pos e]
      refine ⟨fun z => absurd z (Nat.succ_ne_zero _), fun _ => ⟨?_, ?_, ?_⟩, fun l hl => ?_⟩
      · show (if 0 = (lyI tx meas len i).2.1.1 then (lyI tx meas len i).1 else (lyI tx meas len i).2.2.1 0) = 0
        by_cases e0 : 0 = (lyI tx meas len i).2.1.1
        · rw [if_pos e0]; exact (h1 e0.symm).1
        · rw [if_neg e0]; exact (h2 (by omega)).1
      · show (if 0 = (lyI tx meas len i).2.1.1 + 1 then (lyI tx meas len i).2.1.2.2.1 + gc (cB tx (lyI tx meas len i).1 (i - (lyI tx meas len i).1)) else if 0 = (lyI tx meas len i).2.1.1 then (lyI tx meas len i).2.1.2.2.1 else (lyI tx meas len i).2.2.2.2.1 0) = 0
        rw [if_neg (by omega)]
        by_cases e0 : 0 = (lyI tx meas len i).2.1.1
        · rw [if_pos e0]; exact (h1 e0.symm).2
        · rw [if_neg e0]; exact (h2 (by omega)).2.1
      · show i + 1 = (if (lyI tx meas len i).2.1.1 + 1 - 1 = (lyI tx meas len i).2.1.1 then i else (lyI tx meas len i).2.2.2.1 ((lyI tx meas len i).2.1.1 + 1 - 1)) + 1
        rw [if_pos (by omega)]
      · have hl' : l + 1 < (lyI tx meas len i).2.1.1 + 1 := hl
        show (if l + 1 = (lyI tx meas len i).2.1.1 then (lyI tx meas len i).1 else (lyI tx meas len i).2.2.1 (l + 1)) = (if l = (lyI tx meas len i).2.1.1 then i else (lyI tx meas len i).2.2.2.1 l) + 1
        rw [if_neg (show ¬ l = (lyI tx meas len i).2.1.1 by omega)]
        by_cases e0 : l + 1 = (lyI tx meas len i).2.1.1
        · rw [if_pos e0]
          have := (h2 (by omega)).2.2
          rw [this, show (lyI tx meas len i).2.1.1 - 1 = l by omega]
        · rw [if_neg e0]; exact h3 l (by omega)
    · rw [if_neg e]
      exact ⟨h1, h2, h3⟩
theorem sm_app (a b : Nat) (f : Nat → Int32) : sm (a + b) f = sm a f + sm b (fun i => f (a + i)) := by
  induction b with
  | zero => rw [Nat.add_zero, sm0, Int32.add_zero]
  | succ b ih => rw [show a + (b + 1) = (a + b) + 1 by omega, smS, smS, ih, Int32.add_assoc]
theorem sm_blk (n : Nat) (f : Nat → Int32) : sm (29 * n) f = sm n (fun c => sm 29 (fun s => f (29 * c + s))) := by
  induction n with
  | zero => rfl
  | succ n ih =>
    rw [show 29 * (n + 1) = 29 * n + 29 by omega, sm_app, ih]
    exact (smS n _).symm
/-- the layout y is that of the text -/
def LayR (h : Hp) (y : Nat) (tx : Nat → Int32) (meas : Int32) (len : Nat) : Prop :=
  hK h y = 3 ∧ (hK h (hR h y 0) = 25 ∧ hL h (hR h y 0) = 60 ∧ ∀ i, i < len → hI h (hR h y 0) i = tx i) ∧ (hK h (hR h y 1) = 31 ∧ hL h (hR h y 1) = 26 ∧ ∀ s, s < 26 → hI h (hR h y 1) s = nd tx s len) ∧
  (hK h (hR h y 2) = 32 ∧ hL h (hR h y 2) = 30 ∧ ∀ l, l < (lay tx meas len).1.1 → hI h (hR h y 2) l = nI ((lay tx meas len).2.2.1 l)) ∧ (hK h (hR h y 3) = 33 ∧ hL h (hR h y 3) = 30 ∧ ∀ l, l < (lay tx meas len).1.1 → hI h (hR h y 3) l = nI ((lay tx meas len).2.2.2.1 (l + 1))) ∧
  (hK h (hR h y 4) = 34 ∧ hL h (hR h y 4) = 30 ∧ ∀ k, k < (lay tx meas len).1.2.2.1 → hI h (hR h y 4) k = (lay tx meas len).2.2.2.2 k) ∧ hI h y 5 = nI (lay tx meas len).1.1 ∧ hI h y 6 = nI (lay tx meas len).1.2.1 ∧ hI h y 7 = nI (lay tx meas len).1.2.2.1
def OrdR (h : Hp) (o : Nat) (ρ : Row) (j : Nat) : Prop := hK h o = 4 ∧ hI h o 0 = jb ρ j 0 ∧ hI h o 1 = jb ρ j 1 ∧ hI h o 2 = jb ρ j 2 ∧ LayR h (hR h o 3) (jtx ρ j) (jb ρ j 1) (jlen ρ j)
def TakR (h : Hp) (t : Nat) (ρ : Row) (j : Nat) : Prop := hK h t = 20 ∧ (hL h t = 174 ∨ hL h t = 0) ∧ ∀ c s, c < 6 → s < 29 → (if 29 * c + s < hL h t then hI h t (29 * c + s) else 0) = fm ρ j c s
def JobR (h : Hp) (ρ : Row) (j c : Nat) : Prop := hK h c = 2 ∧ OrdR h (hR h c 0) ρ j ∧ hI h c 1 = jb ρ j 3 ∧ hI h c 2 = jb ρ j 4 ∧ TakR h (hR h c 3) ρ j
theorem FR.k {h h' : Hp} (f : FR h h') {c n : Nat} (hc : hK h c = n) (hn : im n) : hK h' c = n ∧ hL h' c = hL h c ∧ (∀ i, hI h' c i = hI h c i) ∧ ∀ i, hR h' c i = hR h c i := by
  obtain ⟨a, b, d, e⟩ := f c (by rw [hc]; exact hn)
  exact ⟨a.trans hc, b, d, e⟩
theorem LayR.fr {h h' : Hp} {y : Nat} {tx : Nat → Int32} {meas : Int32} {len : Nat} (L : LayR h y tx meas len) (f : FR h h') : LayR h' y tx meas len := by
  obtain ⟨l1, ⟨a1, a2, a3⟩, ⟨b1, b2, b3⟩, ⟨c1, c2, c3⟩, ⟨d1, d2, d3⟩, ⟨e1, e2, e3⟩, l5, l6, l7⟩ := L
  obtain ⟨y1, y2, y3, y4⟩ := f.k l1 (by unfold im; omega)
  obtain ⟨a4, a5, a6, a7⟩ := f.k a1 (by unfold im; omega)
  obtain ⟨b4, b5, b6, b7⟩ := f.k b1 (by unfold im; omega)
  obtain ⟨c4, c5, c6, c7⟩ := f.k c1 (by unfold im; omega)
  obtain ⟨d4, d5, d6, d7⟩ := f.k d1 (by unfold im; omega)
  obtain ⟨e4, e5, e6, e7⟩ := f.k e1 (by unfold im; omega)
  refine ⟨y1, ?_, ?_, ?_, ?_, ?_, by rw [y3]; exact l5, by rw [y3]; exact l6, by rw [y3]; exact l7⟩
  · rw [y4]; exact ⟨a4, a5.trans a2, fun i hi => (a6 i).trans (a3 i hi)⟩
  · rw [y4]; exact ⟨b4, b5.trans b2, fun i hi => (b6 i).trans (b3 i hi)⟩
  · rw [y4]; exact ⟨c4, c5.trans c2, fun i hi => (c6 i).trans (c3 i hi)⟩
  · rw [y4]; exact ⟨d4, d5.trans d2, fun i hi => (d6 i).trans (d3 i hi)⟩
  · rw [y4]; exact ⟨e4, e5.trans e2, fun i hi => (e6 i).trans (e3 i hi)⟩
theorem OrdR.fr {h h' : Hp} {o : Nat} {ρ : Row} {j : Nat} (O : OrdR h o ρ j) (f : FR h h') : OrdR h' o ρ j := by
  obtain ⟨o1, o2, o3, o4, o5⟩ := O
  obtain ⟨y1, y2, y3, y4⟩ := f.k o1 (by unfold im; omega)
  exact ⟨y1, by rw [y3]; exact o2, by rw [y3]; exact o3, by rw [y3]; exact o4, by rw [y4]; exact o5.fr f⟩
theorem TakR.fr {h h' : Hp} {t : Nat} {ρ : Row} {j : Nat} (T : TakR h t ρ j) (f : FR h h') : TakR h' t ρ j := by
  obtain ⟨t1, t2, t3⟩ := T
  obtain ⟨y1, y2, y3, y4⟩ := f.k t1 (by unfold im; omega)
  exact ⟨y1, by rw [y2]; exact t2, fun c s hc hs => by rw [y2, y3]; exact t3 c s hc hs⟩
theorem JobR.fr {h h' : Hp} {ρ : Row} {j c : Nat} (J : JobR h ρ j c) (f : FR h h') : JobR h' ρ j c := by
  obtain ⟨j1, j2, j3, j4, j5⟩ := J
  obtain ⟨y1, y2, y3, y4⟩ := f.k j1 (by unfold im; omega)
  exact ⟨y1, by rw [y4]; exact j2.fr f, by rw [y3]; exact j3, by rw [y3]; exact j4, by rw [y4]; exact j5.fr f⟩
theorem lyI_congr {tx ty : Nat → Int32} {meas : Int32} {len : Nat} (h : ∀ i, i < len → tx i = ty i) : ∀ i, i ≤ len + 1 → lyI tx meas len i = lyI ty meas len i := by
  intro i
  induction i with
  | zero => intro _; rfl
  | succ i ih =>
    intro hi
    have e1 := ih (by omega)
    unfold lyI
    rw [e1]
    by_cases e : i = len ∨ tx i = 47
    · have e2 : i = len ∨ ty i = 47 := by
        by_cases q : i = len
        · exact Or.inl q
        · exact Or.inr (by rw [← h i (by omega)]; exact e.resolve_left q)
      rw [if_pos e, if_pos e2]
      unfold lyL
      have g : ∀ x, (lyI ty meas len i).1 ≤ x → x < (lyI ty meas len i).1 + (i - (lyI ty meas len i).1) → tx x = ty x := fun x a b => h x (by omega)
      rw [cL_congr g, cB_congr g, sW_congr g]
    · have e2 : ¬ (i = len ∨ ty i = 47) := fun z => e (by
        by_cases q : i = len
        · exact Or.inl q
        · exact Or.inr (by rw [h i (by omega)]; exact z.resolve_left q))
      rw [if_neg e, if_neg e2]
theorem lay_congr {tx ty : Nat → Int32} {meas : Int32} {len : Nat} (h : ∀ i, i < len → tx i = ty i) : lay tx meas len = lay ty meas len := by
  unfold lay
  rw [lyI_congr h (len + 1) (Nat.le_refl _)]
theorem nd_congr {tx ty : Nat → Int32} {s : Nat} : ∀ n, (∀ i, i < n → tx i = ty i) → nd tx s n = nd ty s n := by
  intro n
  induction n with
  | zero => intro _; rfl
  | succ n ih => intro h; unfold nd; rw [ih (fun i hi => h i (by omega)), h n (by omega)]
theorem FF.congr {tx ty : Nat → Int32} {len : Nat} (h : ∀ i, i < len → tx i = ty i) (f : FF tx len) : FF ty len := by
  obtain ⟨f1, f2, f3, f4⟩ := f
  refine ⟨f1, f2, by rw [← h _ (by omega)]; exact f3, fun x hx => ?_⟩
  rw [← h x hx]
  rcases f4 x hx with q | ⟨q1, q2, q3⟩
  · exact Or.inl q
  · exact Or.inr ⟨q1, q2, by rw [← h (x - 1) (by omega)]; exact q3⟩
theorem LayR.congr {h : Hp} {y : Nat} {tx ty : Nat → Int32} {meas : Int32} {len : Nat} (L : LayR h y tx meas len) (e : ∀ i, i < len → tx i = ty i) : LayR h y ty meas len := by
  obtain ⟨l1, ⟨a1, a2, a3⟩, ⟨b1, b2, b3⟩, l4⟩ := L
  rw [lay_congr e] at l4
  exact ⟨l1, ⟨a1, a2, fun i hi => (a3 i hi).trans (e i hi)⟩, ⟨b1, b2, fun s hs => (b3 s hs).trans (nd_congr len e)⟩, l4⟩
/-- the order speaks of a few places only -/
theorem JT.same {ρ ρ' : Row} {j : Nat} (e : ∀ w, (w < 3 ∨ (6 ≤ w ∧ w < 67)) → jb ρ' j w = jb ρ j w) (hF : JT ρ j) : jlen ρ' j = jlen ρ j ∧ (∀ i, i < jlen ρ j → jtx ρ j i = jtx ρ' j i) ∧ JT ρ' j := by
  have el : jlen ρ' j = jlen ρ j := by unfold jlen; rw [e 6 (by omega)]
  have h60 := hF.2.2.1
  have et : ∀ i, i < jlen ρ j → jtx ρ j i = jtx ρ' j i := fun i hi => (e (7 + i) (by omega)).symm
  exact ⟨el, et, by rw [el, e 6 (by omega)]; exact hF.1, by rw [el]; exact hF.2.congr et⟩
theorem OrdR.same {h : Hp} {o : Nat} {ρ ρ' : Row} {j : Nat} (O : OrdR h o ρ j) (e : ∀ w, (w < 3 ∨ (6 ≤ w ∧ w < 67)) → jb ρ' j w = jb ρ j w) (hF : JT ρ j) : OrdR h o ρ' j := by
  obtain ⟨o1, o2, o3, o4, o5⟩ := O
  obtain ⟨el, et, -⟩ := JT.same e hF
  refine ⟨o1, by rw [e 0 (by omega)]; exact o2, by rw [e 1 (by omega)]; exact o3, by rw [e 2 (by omega)]; exact o4, ?_⟩
  rw [el, e 1 (by omega)]
  exact o5.congr et
section CJOB
variable {h : Hp} {ρ : Row} {j c : Nat} {K : Int32 → Hp → Prop}
theorem k_takenFrom (J : JobR h ρ j c) {cc s : Nat} (hc : cc < 6) (hs : s < 29) : V_X1_takenFrom c (nI cc) (nI s) h K ↔ K (fm ρ j cc s) h := by
  obtain ⟨j1, j2, j3, j4, t1, t2, t3⟩ := J
  unfold V_X1_takenFrom V_X1_takenFrom_28 V_X1_takenFrom_29 V_X6_slotOf
  rw [e29, ← t3 cc s hc hs]
  simp only [j1, t1, ix_nI (show 29 * cc + s < 2 ^ 31 by omega), true_and]
  rw [nle (by omega) (by omega)]
  by_cases e : 29 * cc + s < hL h (hR h c 3)
  · rw [if_pos e]
    exact ⟨fun z => ((z.2 (cn0 (by omega))).2 (by omega)).2, fun z => ⟨fun q => absurd q (cn0 (by omega)), fun _ => ⟨fun q => absurd q (by omega), fun _ => ⟨vin e (by omega), z⟩⟩⟩⟩
  · rw [if_neg e]
    exact ⟨fun z => (z.2 (cn0 (by omega))).1 (by omega), fun z => ⟨fun q => absurd q (cn0 (by omega)), fun _ => ⟨fun _ => z, fun q => absurd (by omega) q⟩⟩⟩
theorem k_takenInAll (J : JobR h ρ j c) {s : Nat} (hs : s < 29) (hK : K (sm 6 (fun cc => fm ρ j cc s)) h) : V_X1_takenInAll c (nI s) h K := by
  have key : ∀ (d i n : Nat), i + d = 6 → d < n → V_X1_takenInAll_4 K n c (nI s) (sm i (fun cc => fm ρ j cc s)) (nI i) h := by
    intro d
    induction d with
    | zero =>
      intro i n h1 h2
      obtain ⟨n, rfl⟩ : ∃ k, n = k + 1 := ⟨n - 1, by omega⟩
      obtain rfl : i = 6 := by omega
      exact ⟨fun _ => hK, fun z => absurd (by decide) z⟩
    | succ d ih =>
      intro i n h1 h2
      obtain ⟨n, rfl⟩ : ∃ k, n = k + 1 := ⟨n - 1, by omega⟩
      unfold V_X1_takenInAll_4
      rw [c6 (by omega), nI_1, k_takenFrom J (by omega) hs]
      exact ⟨fun z => absurd z (by omega), fun _ => ⟨J.1, ih (i + 1) n (by omega) (by omega)⟩⟩
  exact ⟨7, key 6 0 7 rfl (by decide)⟩
theorem k_formeMetal (J : JobR h ρ j c) (hK : K (sm 29 (fun s => sm 6 (fun cc => fm ρ j cc s) * wd s)) h) : V_X1_formeMetal c h K := by
  have key : ∀ (d i n : Nat), i + d = 29 → d < n → V_X1_formeMetal_4 K n c (sm i (fun s => sm 6 (fun cc => fm ρ j cc s) * wd s)) (nI i) h := by
    intro d
    induction d with
    | zero =>
      intro i n h1 h2
      obtain ⟨n, rfl⟩ : ∃ k, n = k + 1 := ⟨n - 1, by omega⟩
      obtain rfl : i = 29 := by omega
      exact ⟨fun _ => hK, fun z => absurd (by decide) z⟩
    | succ d ih =>
      intro i n h1 h2
      obtain ⟨n, rfl⟩ : ∃ k, n = k + 1 := ⟨n - 1, by omega⟩
      unfold V_X1_formeMetal_4
      rw [c29 (by omega), nI_1]
      refine ⟨fun z => absurd z (by omega), fun _ => ⟨J.1, k_takenInAll J (by omega) ?_⟩⟩
      rw [k_width (by omega)]
      exact ih (i + 1) n (by omega) (by omega)
  exact ⟨30, key 29 0 30 rfl (by decide)⟩
theorem k_formePieces (J : JobR h ρ j c) (hK : K (sm 6 (fun cc => sm 29 (fun s => fm ρ j cc s))) h) : V_X1_formePieces c h K := by
  obtain ⟨j1, j2, j3, j4, t1, t2, t3⟩ := J
  have tot : sm (hL h (hR h c 3)) (fun i => hI h (hR h c 3) i) = sm 6 (fun cc => sm 29 (fun s => fm ρ j cc s)) := by
    rcases t2 with e | e
    · rw [e, show (174 : Nat) = 29 * 6 from rfl, sm_blk]
      refine sm_congr (fun cc hc => sm_congr (fun s hs => ?_))
      rw [← t3 cc s hc hs, if_pos (by omega)]
    · rw [e, sm0]
      refine (sm_zero (fun cc hc => sm_zero (fun s hs => ?_))).symm
      rw [← t3 cc s hc hs, if_neg (by omega)]
  have hl : hL h (hR h c 3) < 2 ^ 31 := by omega
  have key : ∀ (d i n : Nat), i + d = hL h (hR h c 3) → d < n → V_X1_formePieces_4 K n c (sm i (fun i => hI h (hR h c 3) i)) (nI i) h := by
    intro d
    induction d with
    | zero =>
      intro i n h1 h2
      obtain ⟨n, rfl⟩ : ∃ k, n = k + 1 := ⟨n - 1, by omega⟩
      unfold V_X1_formePieces_4
      rw [nle hl (by omega)]
      refine ⟨j1, t1, fun _ => ?_, fun z => absurd (by omega) z⟩
      rw [show i = hL h (hR h c 3) by omega, tot]
      exact hK
    | succ d ih =>
      intro i n h1 h2
      obtain ⟨n, rfl⟩ : ∃ k, n = k + 1 := ⟨n - 1, by omega⟩
      unfold V_X1_formePieces_4
      rw [nle hl (by omega), nI_1, ix_nI (by omega)]
      refine ⟨j1, t1, fun z => absurd z (by omega), fun _ => ⟨j1, t1, vin (by omega) (by omega), ?_⟩⟩
      exact ih (i + 1) n (by omega) (by omega)
  exact ⟨hL h (hR h c 3) + 1, key (hL h (hR h c 3)) 0 (hL h (hR h c 3) + 1) (Nat.zero_add _) (Nat.lt_succ_self _)⟩
theorem k_borrowed (J : JobR h ρ j c) {hm : Nat} (hh : jb ρ j 0 = nI hm) (h6 : hm < 6) (hK : K (sm 6 (fun cc => sm 29 (fun s => fm ρ j cc s)) - sm 29 (fun s => fm ρ j hm s)) h) : V_X1_borrowedPieces c h K := by
  have key : ∀ (d i n : Nat), i + d = 29 → d < n → V_X1_borrowedPieces_7 K n c (sm 6 (fun cc => sm 29 (fun s => fm ρ j cc s)) - sm i (fun s => fm ρ j hm s)) (nI i) h := by
    intro d
    induction d with
    | zero =>
      intro i n h1 h2
      obtain ⟨n, rfl⟩ : ∃ k, n = k + 1 := ⟨n - 1, by omega⟩
      obtain rfl : i = 29 := by omega
      exact ⟨fun _ => hK, fun z => absurd (by decide) z⟩
    | succ d ih =>
      intro i n h1 h2
      obtain ⟨n, rfl⟩ : ∃ k, n = k + 1 := ⟨n - 1, by omega⟩
      unfold V_X1_borrowedPieces_7
      rw [J.2.1.2.1, hh, c29 (by omega), nI_1, k_takenFrom J h6 (by omega)]
      refine ⟨fun z => absurd z (by omega), fun _ => ⟨J.1, J.2.1.1, J.1, ?_⟩⟩
      have := ih (i + 1) n (by omega) (by omega)
      rw [smS i (fun s => fm ρ j hm s), ← i_sub_add] at this
      exact this
  unfold V_X1_borrowedPieces
  refine ⟨J.1, k_formePieces J ⟨30, ?_⟩⟩
  have := key 29 0 30 rfl (by decide)
  rw [sm0, Int32.sub_zero] at this
  exact this
theorem k_hasForme (J : JobR h ρ j c) : V_X1_hasForme c h K ↔ K (if jb ρ j 3 = 1 ∨ jb ρ j 3 = 2 then 1 else 0) h := by
  unfold V_X1_hasForme V_X1_hasForme_16 V_X1_hasForme_21
  simp only [J.1, J.2.2.1, true_and]
  by_cases h1 : jb ρ j 3 = 1
  · simp [h1]
  · by_cases h2 : jb ρ j 3 = 2
    · simp [h2]
    · simp [h1, h2]
theorem k_isOpen (J : JobR h ρ j c) : V_X1_isOpen c h K ↔ K (if jb ρ j 3 = 0 ∨ jb ρ j 3 = 1 then 1 else 0) h := by
  unfold V_X1_isOpen V_X1_isOpen_15 V_X1_isOpen_20
  simp only [J.1, J.2.2.1, true_and]
  by_cases h1 : jb ρ j 3 = 0
  · simp [h1]
  · by_cases h2 : jb ρ j 3 = 1
    · simp [h2]
    · simp [h1, h2]
/-- what the class answers for days late -/
def lateC (ρ : Row) (j : Nat) : Int32 := if jb ρ j 4 = -5 then -5 else if 0 < jb ρ j 4 - jb ρ j 2 then jb ρ j 4 - jb ρ j 2 else 0
theorem k_daysLate (J : JobR h ρ j c) : V_X1_daysLate c h K ↔ K (lateC ρ j) h := by
  unfold V_X1_daysLate V_X1_daysLate_30 lateC
  simp only [J.1, J.2.1.1, J.2.1.2.2.2.1, J.2.2.2.1, true_and]
  by_cases h1 : jb ρ j 4 = -5
  · simp [h1]
  · simp [h1]
end CJOB
