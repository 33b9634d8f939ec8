/-! numbers that are counted, told of a job; the digest -/
theorem cv_0 {σ : Nat → Nat → Int32} {nc nj : Nat} : cv σ nc nj 0 = σ 0 0 := by
  unfold cv sp_count
  rw [show (0 : Int32).toInt = 0 from by decide]
  simp
theorem cv_1 {σ : Nat → Nat → Int32} {nc nj : Nat} : cv σ nc nj 1 = σ 0 1 := by
  unfold cv sp_count
  rw [show (1 : Int32).toInt = 1 from by decide]
  simp
theorem cv_2 {σ : Nat → Nat → Int32} {nc nj : Nat} : cv σ nc nj 2 = σ 0 2 := by
  unfold cv sp_count
  rw [show (2 : Int32).toInt = 2 from by decide]
  simp
theorem cv_3 {σ : Nat → Nat → Int32} {nc nj : Nat} : cv σ nc nj 3 = caseM (σ 0) nc := by
  unfold cv sp_count
  rw [show (3 : Int32).toInt = 3 from by decide]
  simp
theorem cv_4 {σ : Nat → Nat → Int32} {nc nj : Nat} : cv σ nc nj 4 = formeM (σ 0) nc nj := by
  unfold cv sp_count
  rw [show (4 : Int32).toInt = 4 from by decide]
  simp
theorem cv_5 {σ : Nat → Nat → Int32} {nc nj : Nat} : cv σ nc nj 5 = boxM (σ 0) := by
  unfold cv sp_count
  rw [show (5 : Int32).toInt = 5 from by decide]
  simp
theorem cv_6 {σ : Nat → Nat → Int32} {nc nj : Nat} : cv σ nc nj 6 = σ 0 4 := by
  unfold cv sp_count
  rw [show (6 : Int32).toInt = 6 from by decide]
  simp
theorem cv_7 {σ : Nat → Nat → Int32} {nc nj : Nat} : cv σ nc nj 7 = σ 0 5 := by
  unfold cv sp_count
  rw [show (7 : Int32).toInt = 7 from by decide]
  simp
theorem cv_8 {σ : Nat → Nat → Int32} {nc nj : Nat} : cv σ nc nj 8 = σ 0 6 := by
  unfold cv sp_count
  rw [show (8 : Int32).toInt = 8 from by decide]
  simp
theorem cv_9 {σ : Nat → Nat → Int32} {nc nj : Nat} : cv σ nc nj 9 = σ 0 7 := by
  unfold cv sp_count
  rw [show (9 : Int32).toInt = 9 from by decide]
  simp
theorem cv_10 {σ : Nat → Nat → Int32} {nc nj : Nat} : cv σ nc nj 10 = boxN (σ 0) := by
  unfold cv sp_count
  rw [show (10 : Int32).toInt = 10 from by decide]
  simp
theorem cv_11 {σ : Nat → Nat → Int32} {nc nj : Nat} : cv σ nc nj 11 = σ 0 3 := by
  unfold cv sp_count
  rw [show (11 : Int32).toInt = 11 from by decide]
  simp
theorem cv_12 {σ : Nat → Nat → Int32} {nc nj : Nat} : cv σ nc nj 12 = lateD (σ 0) nj := by
  unfold cv sp_count
  rw [show (12 : Int32).toInt = 12 from by decide]
  simp
theorem cv_13 {σ : Nat → Nat → Int32} {nc nj : Nat} : cv σ nc nj 13 = pastD (σ 0) nj := by
  unfold cv sp_count
  rw [show (13 : Int32).toInt = 13 from by decide]
  simp
theorem cv_14 {σ : Nat → Nat → Int32} {nc nj : Nat} : cv σ nc nj 14 = σ 2 0 := by
  unfold cv sp_count
  rw [show (14 : Int32).toInt = 14 from by decide]
  simp
theorem cv_15 {σ : Nat → Nat → Int32} {nc nj : Nat} : cv σ nc nj 15 = σ 5 0 := by
  unfold cv sp_count
  rw [show (15 : Int32).toInt = 15 from by decide]
  simp
theorem cv_16 {σ : Nat → Nat → Int32} {nc nj : Nat} : cv σ nc nj 16 = -2 := by
  unfold cv sp_count
  rw [show (16 : Int32).toInt = 16 from by decide]
  simp
theorem jv_0 {ρ : Row} {nc j : Nat} : jv ρ nc j 0 = jb ρ j 0 := by
  unfold jv
  rw [show (0 : Int32).toInt = 0 from by decide]
  simp
theorem jv_1 {ρ : Row} {nc j : Nat} : jv ρ nc j 1 = jb ρ j 1 := by
  unfold jv
  rw [show (1 : Int32).toInt = 1 from by decide]
  simp
theorem jv_2 {ρ : Row} {nc j : Nat} : jv ρ nc j 2 = jb ρ j 2 := by
  unfold jv
  rw [show (2 : Int32).toInt = 2 from by decide]
  simp
theorem jv_3 {ρ : Row} {nc j : Nat} : jv ρ nc j 3 = jb ρ j 3 := by
  unfold jv
  rw [show (3 : Int32).toInt = 3 from by decide]
  simp
theorem jv_4 {ρ : Row} {nc j : Nat} : jv ρ nc j 4 = nI (jL ρ j).1.1 := by
  unfold jv
  rw [show (4 : Int32).toInt = 4 from by decide]
  simp
theorem jv_5 {ρ : Row} {nc j : Nat} : jv ρ nc j 5 = nI (jL ρ j).1.2.1 := by
  unfold jv
  rw [show (5 : Int32).toInt = 5 from by decide]
  simp
theorem jv_6 {ρ : Row} {nc j : Nat} : jv ρ nc j 6 = nI (jL ρ j).1.2.2.1 := by
  unfold jv
  rw [show (6 : Int32).toInt = 6 from by decide]
  simp
theorem jv_7 {ρ : Row} {nc j : Nat} : jv ρ nc j 7 = formeN ρ nc j := by
  unfold jv
  rw [show (7 : Int32).toInt = 7 from by decide]
  simp
theorem jv_8 {ρ : Row} {nc j : Nat} : jv ρ nc j 8 = formeO ρ nc j := by
  unfold jv
  rw [show (8 : Int32).toInt = 8 from by decide]
  simp
theorem jv_9 {ρ : Row} {nc j : Nat} : jv ρ nc j 9 = jb ρ j 4 := by
  unfold jv
  rw [show (9 : Int32).toInt = 9 from by decide]
  simp
theorem jv_10 {ρ : Row} {nc j : Nat} : jv ρ nc j 10 = jb ρ j 5 := by
  unfold jv
  rw [show (10 : Int32).toInt = 10 from by decide]
  simp
theorem jv_11 {ρ : Row} {nc j : Nat} : jv ρ nc j 11 = -2 := by
  unfold jv
  rw [show (11 : Int32).toInt = 11 from by decide]
  simp
theorem c2 {i : Nat} (hi : i < 2 ^ 31) : (2 : Int32) ≤ nI i ↔ 2 ≤ i := nI_leI (a := 2) (by decide) hi
theorem c11 {i : Nat} (hi : i < 2 ^ 31) : (11 : Int32) ≤ nI i ↔ 11 ≤ i := nI_leI (a := 11) (by decide) hi
theorem c14 {i : Nat} (hi : i < 2 ^ 31) : (14 : Int32) ≤ nI i ↔ 14 ≤ i := nI_leI (a := 14) (by decide) hi
theorem c100000 {i : Nat} (hi : i < 2 ^ 31) : (100000 : Int32) ≤ nI i ↔ 100000 ≤ i := nI_leI (a := 100000) (by decide) hi
theorem c97 {i : Nat} (hi : i < 2 ^ 31) : (97 : Int32) ≤ nI i ↔ 97 ≤ i := nI_leI (a := 97) (by decide) hi
def fo (f : Nat → Int32) (a : Int64) : Nat → Int64
  | 0 => a
  | n + 1 => (31 * fo f a n) + (f n).toInt64
def fo2 (m : Nat) (f : Nat → Nat → Int32) (a : Int64) : Nat → Int64
  | 0 => a
  | n + 1 => fo (f n) (fo2 m f a n) m
/-- all counts but the history's and the text's speak of the row alone -/
def cr (ρ : Row) (nc nj : Nat) (a : Int32) : Int32 := sp_count ρ nc nj 0 0 a
theorem cv_cr {σ : Nat → Nat → Int32} {nc nj w : Nat} (hw : w < 14) : cv σ nc nj (nI w) = cr (σ 0) nc nj (nI w) := by
  unfold cv cr sp_count
  rw [nI_toInt (by omega)]
  simp only [show ¬ ((w : Int) = 14) by omega, show ¬ ((w : Int) = 15) by omega, if_false]
def DG (ρ : Row) (nc nj : Nat) : Int64 := fo2 11 (fun j w => jv ρ nc j (nI w)) (fo2 29 (fun c s => ρ (8 + 29 * c + s)) (fo (fun s => ρ (182 + s)) (fo (fun w => cr ρ nc nj (nI w)) 73 14) 29) nc) nj
section DIG
variable {hh : Hp} {x k t nc nj d : Nat} {σ : Nat → Nat → Int32} {K : Int64 → Hp → Prop}
theorem dg_93 (B : BN (σ 0) t nc nj d) {C : Nat → Int64 → Int32 → Hp → Prop} {a : Int64} {j : Nat} (hj : j < nj) (hC : ∀ h', Qh hh x σ k h' → C x (fo (fun w => jv (σ 0) nc j (nI w)) a 11) (nI (j + 1)) h') : ∀ (d i n : Nat) (h : Hp), i + d = 11 → d < n → Qh hh x σ k h → V_L_digest_93 K C n x (fo (fun w => jv (σ 0) nc j (nI w)) a i) (nI j) (nI i) h := by
  intro d
  induction d with
  | zero =>
    intro i n h h1 h2 q
    obtain ⟨n, rfl⟩ : ∃ m, n = m + 1 := ⟨n - 1, by omega⟩
    obtain rfl : i = 11 := by omega
    refine ⟨fun _ => ?_, fun z => absurd (by decide) z⟩
    rw [nI_1]; exact hC h q
  | succ d ih =>
    intro i n h h1 h2 q
    obtain ⟨n, rfl⟩ : ∃ m, n = m + 1 := ⟨n - 1, by omega⟩
    unfold V_L_digest_93
    rw [c11 (by omega)]
    refine ⟨fun z => absurd z (by omega), fun _ => u_job q B hj _ (fun h' q' => ?_)⟩
    rw [nI_1]
    exact ih (i + 1) n h' (by omega) (by omega) q'
theorem dg_81 (B : BN (σ 0) t nc nj d) {a : Int64} (hK : ∀ h', Qh hh x σ k h' → K (fo2 11 (fun j w => jv (σ 0) nc j (nI w)) a nj) h') : ∀ (d j n : Nat) (h : Hp), j + d = nj → d < n → Qh hh x σ k h → V_L_digest_81 K n x (fo2 11 (fun j w => jv (σ 0) nc j (nI w)) a j) (nI j) h := by
  have h12 := B.2.1
  intro d
  induction d with
  | zero =>
    intro j n h h1 h2 q
    obtain ⟨n, rfl⟩ : ∃ m, n = m + 1 := ⟨n - 1, by omega⟩
    obtain rfl : j = nj := by omega
    refine u_count q B 1 (fun h' q' => ?_)
    rw [cv_1, B.2.2.2.2.1]
    exact ⟨fun _ => hK h' q', fun z => absurd (Int32.le_refl _) z⟩
  | succ d ih =>
    intro j n h h1 h2 q
    obtain ⟨n, rfl⟩ : ∃ m, n = m + 1 := ⟨n - 1, by omega⟩
    refine u_count q B 1 (fun h' q' => ?_)
    rw [cv_1, B.2.2.2.2.1, nle (by omega) (by omega)]
    exact ⟨fun z => absurd z (by omega), fun _ => ⟨12, dg_93 B (by omega) (fun h2 q2 => ih (j + 1) n h2 (by omega) (by omega) q2) 11 0 12 h' rfl (by decide) q'⟩⟩
theorem dg_45b (B : BN (σ 0) t nc nj d) {C : Nat → Int64 → Int32 → Hp → Prop} {a : Int64} (hC : ∀ h', Qh hh x σ k h' → C x (fo (fun s => σ 0 (182 + s)) a 29) (nI 0) h') : ∀ (d i n : Nat) (h : Hp), i + d = 29 → d < n → Qh hh x σ k h → V_L_digest_45 K C n x (fo (fun s => σ 0 (182 + s)) a i) (-1) (nI i) h := by
  intro d
  induction d with
  | zero =>
    intro i n h h1 h2 q
    obtain ⟨n, rfl⟩ : ∃ m, n = m + 1 := ⟨n - 1, by omega⟩
    obtain rfl : i = 29 := by omega
    exact ⟨fun _ => hC h q, fun z => absurd (by decide) z⟩
  | succ d ih =>
    intro i n h h1 h2 q
    obtain ⟨n, rfl⟩ : ∃ m, n = m + 1 := ⟨n - 1, by omega⟩
    unfold V_L_digest_45
    rw [c29 (by omega)]
    refine ⟨fun z => absurd z (by omega), fun _ => u_pb q B (by omega) (fun h' q' => ?_)⟩
    rw [nI_1]
    exact ih (i + 1) n h' (by omega) (by omega) q'
theorem dg_45 (B : BN (σ 0) t nc nj d) {C : Nat → Int64 → Int32 → Hp → Prop} {a : Int64} {c : Nat} (hc : c < nc) (hC : ∀ h', Qh hh x σ k h' → C x (fo (fun s => σ 0 (8 + 29 * c + s)) a 29) (nI (c + 1)) h') : ∀ (d i n : Nat) (h : Hp), i + d = 29 → d < n → Qh hh x σ k h → V_L_digest_45 K C n x (fo (fun s => σ 0 (8 + 29 * c + s)) a i) (nI c) (nI i) h := by
  intro d
  induction d with
  | zero =>
    intro i n h h1 h2 q
    obtain ⟨n, rfl⟩ : ∃ m, n = m + 1 := ⟨n - 1, by omega⟩
    obtain rfl : i = 29 := by omega
    refine ⟨fun _ => ?_, fun z => absurd (by decide) z⟩
    rw [nI_1]; exact hC h q
  | succ d ih =>
    intro i n h h1 h2 q
    obtain ⟨n, rfl⟩ : ∃ m, n = m + 1 := ⟨n - 1, by omega⟩
    unfold V_L_digest_45
    rw [c29 (by omega)]
    refine ⟨fun z => absurd z (by omega), fun _ => u_pc q B hc (by omega) (fun h' q' => ?_)⟩
    rw [nI_1]
    exact ih (i + 1) n h' (by omega) (by omega) q'
theorem dg_33 (B : BN (σ 0) t nc nj d) {a : Int64} (hK : ∀ h', Qh hh x σ k h' → K (fo2 11 (fun j w => jv (σ 0) nc j (nI w)) (fo2 29 (fun c s => σ 0 (8 + 29 * c + s)) a nc) nj) h') : ∀ (d c n : Nat) (h : Hp), c + d = nc → d < n → Qh hh x σ k h → V_L_digest_33 K n x (fo2 29 (fun c s => σ 0 (8 + 29 * c + s)) a c) (nI c) h := by
  have h6 := B.1
  intro d
  induction d with
  | zero =>
    intro c n h h1 h2 q
    obtain ⟨n, rfl⟩ : ∃ m, n = m + 1 := ⟨n - 1, by omega⟩
    obtain rfl : c = nc := by omega
    refine u_count q B 0 (fun h' q' => ?_)
    rw [cv_0, B.2.2.2.1]
    exact ⟨fun _ => ⟨nj + 1, dg_81 B hK nj 0 (nj + 1) h' (by omega) (by omega) q'⟩, fun z => absurd (Int32.le_refl _) z⟩
  | succ d ih =>
    intro c n h h1 h2 q
    obtain ⟨n, rfl⟩ : ∃ m, n = m + 1 := ⟨n - 1, by omega⟩
    refine u_count q B 0 (fun h' q' => ?_)
    rw [cv_0, B.2.2.2.1, nle (by omega) (by omega)]
    exact ⟨fun z => absurd z (by omega), fun _ => ⟨30, dg_45 B (by omega) (fun h2 q2 => ih (c + 1) n h2 (by omega) (by omega) q2) 29 0 30 h' rfl (by decide) q'⟩⟩
theorem dg_6 (B : BN (σ 0) t nc nj d) (hK : ∀ h', Qh hh x σ k h' → K (DG (σ 0) nc nj) h') : ∀ (d i n : Nat) (h : Hp), i + d = 14 → d < n → Qh hh x σ k h → V_L_digest_6 K n x (fo (fun w => cr (σ 0) nc nj (nI w)) 73 i) (nI i) h := by
  intro d
  induction d with
  | zero =>
    intro i n h h1 h2 q
    obtain ⟨n, rfl⟩ : ∃ m, n = m + 1 := ⟨n - 1, by omega⟩
    obtain rfl : i = 14 := by omega
    refine ⟨fun _ => ⟨nc + 2, ?_⟩, fun z => absurd (by decide) z⟩
    have h6 := B.1
    refine u_count q B 0 (fun h' q' => ?_)
    rw [cv_0, B.2.2.2.1]
    refine ⟨fun z => absurd z ?_, fun _ => ⟨30, dg_45b B (fun h2 q2 => dg_33 B hK nc 0 (nc + 1) h2 (by omega) (by omega) q2) 29 0 30 h' rfl (by decide) q'⟩⟩
    intro z
    exact absurd (Int32.le_trans (c0 (show nc < 2 ^ 31 by omega)) z) (by decide)
  | succ d ih =>
    intro i n h h1 h2 q
    obtain ⟨n, rfl⟩ : ∃ m, n = m + 1 := ⟨n - 1, by omega⟩
    unfold V_L_digest_6
    rw [c14 (by omega)]
    refine ⟨fun z => absurd z (by omega), fun _ => u_count q B _ (fun h' q' => ?_)⟩
    rw [nI_1, cv_cr (by omega)]
    exact ih (i + 1) n h' (by omega) (by omega) q'
theorem w_digest {h : Hp} (q : Qh hh x σ k h) (B : BN (σ 0) t nc nj d) (hK : ∀ h', Qh hh x σ k h' → K (DG (σ 0) nc nj) h') : V_L_digest x h K := ⟨15, dg_6 B hK 14 0 15 h rfl (by decide) q⟩
end DIG
