/-! each act keeps what holds of every row -/
def GA (o : Ans) (t : Nat) : Prop := ∀ P, o.2 = some P → ∀ ρ', P ρ' → WF ρ' (t + 1)
theorem ga_no {r : Int32} {t : Nat} : GA (no r) t := fun P h => by cases h
theorem ga_did {r : Int32} {P : Row → Prop} {t : Nat} (h : ∀ ρ', P ρ' → WF ρ' (t + 1)) : GA (did r P) t := fun Q hQ => by cases hQ; exact h
section GAs
variable {ρ : Row} {t : Nat}
theorem ga_buy (W : WF ρ t) (a : Int32) : GA (sp_buy ρ a) t := by
  unfold sp_buy
  split
  · exact ga_no
  · split
    · refine ga_did (fun ρ' hp => ?_)
      subst hp
      exact W.same (by omega) (fun y _ hy => by rw [ur_n (by omega), ur_n (by omega)])
    · exact ga_no
theorem ga_meltBox (W : WF ρ t) : GA (sp_meltBox ρ) t := by
  unfold sp_meltBox
  split
  · exact ga_no
  · refine ga_did (fun ρ' hp => ?_)
    subst hp
    refine W.same (by omega) (fun y _ hy => ?_)
    show mbR ρ y = ρ y
    rw [mbR_e, if_neg (by omega), if_neg (by omega), if_neg (by omega), if_neg (by omega)]
theorem ga_addCase (W : WF ρ t) : GA (sp_addCase ρ) t := by
  unfold sp_addCase
  split
  · exact ga_no
  · rename_i hne
    refine ga_did (fun ρ' hp => ?_)
    subst hp
    obtain ⟨nc, nj, d, h1, h2, h3, h4, h5, h6, h7, h8, h9⟩ := W
    have hn : nc < 6 := by
      have : ¬ nc = 6 := fun e => hne (by rw [h4, e]; rfl)
      omega
    refine ⟨nc + 1, nj, d, by omega, h2, by omega, by rw [ur_s, h4, nI_1], by rw [ur_n (by decide)]; exact h5, by rw [ur_n (by decide)]; exact h6, fun c s a b => by rw [ur_n (by omega)]; exact h7 c s a b, fun c s a b e => by rw [ur_n (by omega)]; exact h8 c s (by omega) b e, fun j hj => (h9 j hj).same (fun w hw => by unfold jb; rw [ur_n (by omega)]) (by omega)⟩
theorem ga_pass (W : WF ρ t) (a : Int32) : GA (sp_pass ρ a) t := by
  unfold sp_pass
  split
  · exact ga_no
  · rename_i hne
    refine ga_did (fun ρ' hp => ?_)
    subst hp
    obtain ⟨nc, nj, d, h1, h2, h3, h4, h5, h6, h7, h8, h9⟩ := W
    obtain ⟨m, m1, m2, rfl⟩ := small_of (fun z => hne (Or.inl z)) (N := 30) rfl (by decide) (Int32.not_lt.mp (fun z => hne (Or.inr z)))
    refine ⟨nc, nj, d + m, h1, h2, by omega, by rw [ur_n (by decide)]; exact h4, by rw [ur_n (by decide)]; exact h5, by rw [ur_s, h6, nI_add], fun c s a b => by rw [ur_n (by omega)]; exact h7 c s a b, fun c s a b e => by rw [ur_n (by omega)]; exact h8 c s a b e, fun j hj => (h9 j hj).same (fun w hw => by unfold jb; rw [ur_n (by omega)]) (Nat.le_refl _)⟩
theorem ga_castW (W : WF ρ t) {nc c : Nat} (hn : ρ 0 = nI nc) (hn6 : nc ≤ 6) (hc : c < nc) {w : Nat → Int32} (hw : ∀ s, s < 29 → ∃ v, v < 2 ^ 20 ∧ w s = nI v) (r : Int32) : GA (castW ρ c w r) t := by
  unfold castW
  split
  · exact ga_no
  · rename_i hF
    split
    · refine ga_did (fun ρ' hp => ?_)
      subst hp
      obtain ⟨nc', nj, d, h1, h2, h3, h4, h5, h6, h7, h8, h9⟩ := W
      have e : nc' = nc := by
        rw [h4] at hn
        exact (nI_eq (by omega) (by omega)).mp hn
      subst e
      have co : ∀ y, ¬ (8 + 29 * c ≤ y ∧ y < 8 + 29 * c + 29) → y ≠ 2 → y ≠ 6 → castA ρ c w y = ρ y := fun y a b d => by unfold castA; rw [if_neg a, if_neg b, if_neg d]
      refine ⟨nc', nj, d, h1, h2, by omega, by rw [co 0 (by omega) (by decide) (by decide)]; exact h4, by rw [co 1 (by omega) (by decide) (by decide)]; exact h5, by rw [co 3 (by omega) (by decide) (by decide)]; exact h6, fun c1 s a b => ?_, fun c1 s a b e => ?_, fun j hj => (h9 j hj).same (fun u hu => co _ (by omega) (by omega) (by omega)) (Nat.le_refl _)⟩
      · by_cases e : c1 = c
        · subst e
          unfold castA
          rw [if_pos (by omega), show 8 + 29 * c1 + s - (8 + 29 * c1) = s by omega]
          obtain ⟨n, hn', en⟩ := h7 c1 s a b
          obtain ⟨v, hv, ev⟩ := hw s b
          have hle : ρ (8 + 29 * c1 + s) + w s ≤ 99 := Int32.not_lt.mp (fun z => hF (anyFull_t b (Int32.not_le.mpr z)))
          rw [en, ev, nI_add] at hle ⊢
          have hle' : n + v ≤ 99 := (nI_leI (b := 99) (by omega) (by decide)).mp hle
          exact ⟨n + v, hle', rfl⟩
        · rw [co _ (by omega) (by omega) (by omega)]; exact h7 c1 s a b
      · rw [co _ (by omega) (by omega) (by omega)]; exact h8 c1 s a b e
    · exact ga_no
theorem ga_cast (W : WF ρ t) (b s n : Int32) : GA (sp_cast ρ b s n) t := by
  have W' := W
  obtain ⟨nc, nj, d, h1, h2, h3, h4, h5, h6, h7, h8, h9⟩ := W'
  unfold sp_cast
  split
  · exact ga_no
  · rename_i hb
    split
    · exact ga_no
    · rename_i hm
      rcases badC_of h4 h1 b with z | ⟨c, c1, c2, rfl, -, ci⟩
      · exact absurd (Or.inl z) hb
      · rw [ci]
        obtain ⟨m, m1, m2, rfl⟩ := small_of (fun z => hm (Or.inl z)) (N := 99) rfl (by decide) (Int32.not_lt.mp (fun z => hm (Or.inr z)))
        refine ga_castW W h4 h1 c1 (fun u hu => ?_) _
        by_cases e : u = ix s
        · exact ⟨m, by omega, if_pos e⟩
        · exact ⟨0, by decide, if_neg e⟩
theorem ga_castFount (W : WF ρ t) (b n : Int32) : GA (sp_castFount ρ b n) t := by
  have W' := W
  obtain ⟨nc, nj, d, h1, h2, h3, h4, h5, h6, h7, h8, h9⟩ := W'
  unfold sp_castFount
  split
  · exact ga_no
  · rename_i hb
    split
    · exact ga_no
    · rename_i hm
      rcases badC_of h4 h1 b with z | ⟨c, c1, c2, rfl, -, ci⟩
      · exact absurd z hb
      · rw [ci]
        obtain ⟨m, m1, m2, rfl⟩ := small_of (fun z => hm (Or.inl z)) (N := 9) rfl (by decide) (Int32.not_lt.mp (fun z => hm (Or.inr z)))
        refine ga_castW W h4 h1 c1 (fun u hu => ?_) _
        unfold fount
        by_cases e : u < 26
        · exact ⟨m, by omega, if_pos e⟩
        · exact ⟨2 * m, by omega, (if_neg e).trans (pk_mul 2 m)⟩
theorem ga_castMissing (W : WF ρ t) {nc nj : Nat} (hn : ρ 0 = nI nc) (hn6 : nc ≤ 6) (hj : ρ 1 = nI nj) (h12 : nj ≤ 12) (hJ : ∀ j, j < nj → JWF ρ nc j) (h7 : ∀ c s, c < 6 → s < 29 → ∃ n, n ≤ 99 ∧ ρ (8 + 29 * c + s) = nI n) (a : Int32) : GA (sp_castMissing ρ nc a) t := by
  unfold sp_castMissing
  split
  · exact ga_no
  · rename_i hb
    split
    · split
      · exact ga_no
      · rcases badJ_of hj h12 a with z | ⟨j, j1, j2, rfl, -, ji⟩
        · exact absurd z hb
        · rw [ji]
          obtain ⟨c, c1, ce⟩ := (hJ j j1).2.1
          rw [ce, ix_nI (by omega)]
          exact ga_castW W hn hn6 c1 (fun s hs => lk_nI (hsm_of hn6 hs h7 (hJ j j1))) _
    · exact ga_no
theorem ga_melt (W : WF ρ t) (b s n : Int32) : GA (sp_melt ρ b s n) t := by
  obtain ⟨nc, nj, d, h1, h2, h3, h4, h5, h6, h7, h8, h9⟩ := W
  unfold sp_melt
  split
  · exact ga_no
  · rename_i hb
    split
    · exact ga_no
    · rename_i hm
      split
      · rename_i hle
        rcases badC_of h4 h1 b with z | ⟨c, c1, c2, rfl, -, ci⟩
        · exact absurd (Or.inl z) hb
        · rcases badS_of s with z | ⟨u, u1, rfl, -, ui⟩
          · exact absurd (Or.inr z) hb
          · rw [ci, ui] at hle ⊢
            obtain ⟨m, m1, m2, rfl⟩ := small_of (fun z => hm (Or.inl z)) (N := 99) rfl (by decide) (Int32.not_lt.mp (fun z => hm (Or.inr z)))
            obtain ⟨v, hv, ev⟩ := h7 c u c2 u1
            rw [ev, nle (by omega) (by omega)] at hle
            refine ga_did (fun ρ' hp => ?_)
            subst hp
            refine ⟨nc, nj, d, h1, h2, by omega, by rw [ur_n (by decide), ur_n (by decide), ur_n (by omega)]; exact h4, by rw [ur_n (by decide), ur_n (by decide), ur_n (by omega)]; exact h5, by rw [ur_n (by decide), ur_n (by decide), ur_n (by omega)]; exact h6, fun c' s' a b => ?_, fun c' s' a b e => ?_, fun j hj => (h9 j hj).same (fun w hw => by unfold jb; rw [ur_n (by omega), ur_n (by omega), ur_n (by omega)]) (Nat.le_refl _)⟩
            · rw [ur_n (by omega), ur_n (by omega)]
              by_cases e : 8 + 29 * c' + s' = 8 + 29 * c + u
              · rw [e, ur_s, ev, pk_sub hle]; exact ⟨v - m, by omega, rfl⟩
              · rw [ur_n e]; exact h7 c' s' a b
            · rw [ur_n (by omega), ur_n (by omega), ur_n (by omega)]; exact h8 c' s' a b e
      · exact ga_no
theorem ga_print (W : WF ρ t) (ht : t < 2 ^ 20) (a : Int32) : GA (sp_print ρ a) t := by
  obtain ⟨nc, nj, d, h1, h2, h3, h4, h5, h6, h7, h8, h9⟩ := W
  unfold sp_print
  split
  · exact ga_no
  · rename_i hb
    split
    · rename_i hs
      rcases badJ_of h5 h2 a with z | ⟨j, j1, j2, rfl, -, ji⟩
      · exact absurd z hb
      · rw [ji] at hs ⊢
        refine ga_did (fun ρ' hp => ?_)
        have eo : ∀ y, y ≠ 211 + 272 * j + 3 → y ≠ 211 + 272 * j + 4 → y ≠ 211 + 272 * j + 5 → ρ' y = ρ y := fun y a b d => by rw [hp, ur_n d, ur_n b, ur_n a]
        refine ⟨nc, nj, d, h1, h2, by omega, by rw [eo 0 (by omega) (by omega) (by omega)]; exact h4, by rw [eo 1 (by omega) (by omega) (by omega)]; exact h5, by rw [eo 3 (by omega) (by omega) (by omega)]; exact h6, fun c s a b => by rw [eo _ (by omega) (by omega) (by omega)]; exact h7 c s a b, fun c s a b e => by rw [eo _ (by omega) (by omega) (by omega)]; exact h8 c s a b e, fun i hi => ?_⟩
        by_cases e : i = j
        · subst e
          obtain ⟨g1, ⟨c, g2, g2'⟩, g3, g4, g5, g6, g7, g8⟩ := h9 i hi
          have ej : ∀ w, w ≠ 3 → w ≠ 4 → w ≠ 5 → jb ρ' i w = jb ρ i w := fun w a b d => eo _ (by omega) (by omega) (by omega)
          have ef : ∀ c s, c < 6 → s < 29 → fm ρ' i c s = fm ρ i c s := fun c s a b => ej (67 + 29 * c + s) (by omega) (by omega) (by omega)
          have e3 : jb ρ' i 3 = 2 := by unfold jb; rw [hp, ur_n (by omega), ur_n (by omega), ur_s]
          have e4 : jb ρ' i 4 = ρ 3 := by unfold jb; rw [hp, ur_n (by omega), ur_s]
          have e5 : jb ρ' i 5 = late ρ i := by unfold jb; rw [hp, ur_s]
          refine ⟨g1.same (fun w hw => ej w (by omega) (by omega) (by omega)), ⟨c, g2, by rw [ej 0 (by decide) (by decide) (by decide)]; exact g2'⟩, fun c s a b => by rw [ef c s a b]; exact g3 c s a b, fun c s a b d => by rw [ef c s b d]; exact g4 c s a b d, fun z => absurd (Or.inr e3) z, fun _ => (g6 (Or.inl hs)).same (fun w hw => ej w (by omega) (by omega) (by omega)) g1.1, ?_, fun z => by rw [e3] at z; exact absurd z (by decide)⟩
          rw [e5, late_C e4 (by rw [h6]; exact nm5 (by omega)) (ej 2 (by decide) (by decide) (by decide))]
          rfl
        · exact (h9 i hi).same (fun w hw => eo _ (by omega) (by omega) (by omega)) (Nat.le_refl _)
    · exact ga_no
theorem back_nI {j c s n f : Nat} {w : Int32} (hw : w = 0 ∨ w = 8) (hn : n ≤ 99) (hf : f ≤ 99) (e1 : ρ (8 + 29 * c + s) = nI n) (e2 : fm ρ j c s = nI f) : ∃ v, v ≤ 99 - n ∧ back ρ j w c s = nI v := by
  have e3 : ∃ u, u ≤ 99 ∧ fm ρ j c s - (if w = 0 then 0 else fm ρ j c s / w) = nI u := by
    rw [e2]
    rcases hw with rfl | rfl
    · rw [if_pos rfl, Int32.sub_zero]; exact ⟨f, hf, rfl⟩
    · rw [if_neg (by decide), show nI f / 8 = nI (f / 8) from pk_div (d := 8) (by omega) (by decide) (by decide), pk_sub (Nat.div_le_self f 8)]
      exact ⟨f - f / 8, by omega, rfl⟩
  obtain ⟨u, hu, eu⟩ := e3
  unfold back
  rw [eu, e1, show (99 : Int32) - nI n = nI (99 - n) from pk_sub (a := 99) hn]
  by_cases q : nI (99 - n) ≤ nI u
  · rw [if_pos q]; exact ⟨_, Nat.le_refl _, rfl⟩
  · rw [if_neg q]
    rw [nle (by omega) (by omega)] at q
    exact ⟨u, by omega, rfl⟩
theorem wf_gone {nc nj d j : Nat} {w : Int32} {st : Nat} (hw : w = 0 ∨ w = 8) (hst : 3 ≤ st ∧ st ≤ 4) (h1 : nc ≤ 6) (h2 : nj ≤ 12) (h3 : d ≤ 30 * t) (h4 : ρ 0 = nI nc) (h5 : ρ 1 = nI nj) (h6 : ρ 3 = nI d) (h7 : ∀ c s, c < 6 → s < 29 → ∃ n, n ≤ 99 ∧ ρ (8 + 29 * c + s) = nI n) (h8 : ∀ c s, nc ≤ c → c < 6 → s < 29 → ρ (8 + 29 * c + s) = 0) (h9 : ∀ j, j < nj → JWF ρ nc j) (hj : j < nj) {ρ' : Row} (hG : Gone (ur ρ (211 + 272 * j + 3) (nI st)) nc j w ρ') : WF ρ' (t + 1) := by
  obtain ⟨p1, p2, p3, p4⟩ := hG
  have eo : ∀ y, (y < 8 ∨ (211 ≤ y ∧ (y < 211 + 272 * j + 67 ∨ 211 + 272 * j + 241 ≤ y))) → y ≠ 211 + 272 * j + 3 → ρ' y = ρ y := fun y a b => by rw [p4 y a, ur_n b]
  obtain ⟨g1, ⟨c, g2, g2'⟩, g3, g4, g5, g6, g7, g8⟩ := h9 j hj
  refine ⟨nc, nj, d, h1, h2, by omega, by rw [eo 0 (by omega) (by omega)]; exact h4, by rw [eo 1 (by omega) (by omega)]; exact h5, by rw [eo 3 (by omega) (by omega)]; exact h6, fun c s a b => ?_, fun c s a b e => ?_, fun i hi => ?_⟩
  · rw [p1 c s a b, back_ur a b, ur_n (by omega)]
    obtain ⟨n, hn, en⟩ := h7 c s a b
    by_cases e : c < nc
    · rw [if_pos e]
      obtain ⟨f, hf, ef⟩ := g3 c s a b
      obtain ⟨v, hv, ev⟩ := back_nI hw hn hf en ef
      rw [en, ev, nI_add]
      exact ⟨n + v, by omega, rfl⟩
    · rw [if_neg e]; exact ⟨n, hn, en⟩
  · rw [p1 c s b e, if_neg (by omega), ur_n (by omega)]; exact h8 c s a b e
  · by_cases e : i = j
    · subst e
      have ej : ∀ w, (w < 67 ∨ 241 ≤ w) → w < 272 → w ≠ 3 → jb ρ' i w = jb ρ i w := fun w a b d => eo _ (by omega) (by omega)
      have e3 : jb ρ' i 3 = nI st := by unfold jb; rw [p4 _ (by omega), ur_s]
      have n12 : ¬ (jb ρ' i 3 = 1 ∨ jb ρ' i 3 = 2) := fun z => by
        rw [e3] at z
        rcases z with z | z
        · have := (nI_eq (b := 1) (by omega) (by decide)).mp z; omega
        · have := (nI_eq (b := 2) (by omega) (by decide)).mp z; omega
      have fz : ∀ c s, c < 6 → s < 29 → fm ρ' i c s = 0 := fun c s a b => by
        rw [p3 c s a b]
        by_cases e : c < nc
        · rw [if_pos e]
        · rw [if_neg e]
          unfold fm
          rw [ur_n (by omega)]
          exact g4 c s (by omega) a b
      refine ⟨g1.same (fun w hw => ej w (by omega) (by omega) (by omega)), ⟨c, g2, by rw [ej 0 (by omega) (by decide) (by decide)]; exact g2'⟩, fun c s a b => ⟨0, by decide, fz c s a b⟩, fun c s _ b d => fz c s b d, fun _ => fz, fun z => absurd z n12, ?_, fun z => ?_⟩
      · rw [ej 5 (by omega) (by decide) (by decide), lateC_same (ej 4 (by omega) (by decide) (by decide)) (ej 2 (by omega) (by decide) (by decide))]; exact g7
      · rw [e3] at z
        rcases z with z | z
        · have := (q0 (by omega)).mp z; omega
        · have := (nI_eq (b := 1) (by omega) (by decide)).mp z; omega
    · exact (h9 i hi).same (fun w hw => eo _ (by omega) (by omega)) (Nat.le_refl _)
theorem ga_distribute {nc nj d : Nat} (h1 : nc ≤ 6) (h2 : nj ≤ 12) (h3 : d ≤ 30 * t) (h4 : ρ 0 = nI nc) (h5 : ρ 1 = nI nj) (h6 : ρ 3 = nI d) (h7 : ∀ c s, c < 6 → s < 29 → ∃ n, n ≤ 99 ∧ ρ (8 + 29 * c + s) = nI n) (h8 : ∀ c s, nc ≤ c → c < 6 → s < 29 → ρ (8 + 29 * c + s) = 0) (h9 : ∀ j, j < nj → JWF ρ nc j) (a : Int32) : GA (sp_distribute ρ nc a) t := by
  unfold sp_distribute
  split
  · exact ga_no
  · rename_i hb
    split
    · rcases badJ_of h5 h2 a with z | ⟨j, j1, j2, rfl, -, ji⟩
      · exact absurd z hb
      · rw [ji]
        exact ga_did (fun ρ' hp => wf_gone (st := 3) (Or.inr rfl) (by omega) h1 h2 h3 h4 h5 h6 h7 h8 h9 j1 hp)
    · exact ga_no
theorem ga_cancel {nc nj d : Nat} (h1 : nc ≤ 6) (h2 : nj ≤ 12) (h3 : d ≤ 30 * t) (h4 : ρ 0 = nI nc) (h5 : ρ 1 = nI nj) (h6 : ρ 3 = nI d) (h7 : ∀ c s, c < 6 → s < 29 → ∃ n, n ≤ 99 ∧ ρ (8 + 29 * c + s) = nI n) (h8 : ∀ c s, nc ≤ c → c < 6 → s < 29 → ρ (8 + 29 * c + s) = 0) (h9 : ∀ j, j < nj → JWF ρ nc j) (a : Int32) : GA (sp_cancel ρ nc a) t := by
  unfold sp_cancel
  split
  · exact ga_no
  · rename_i hb
    split
    · exact ga_no
    · rcases badJ_of h5 h2 a with z | ⟨j, j1, j2, rfl, -, ji⟩
      · exact absurd z hb
      · rw [ji]
        exact ga_did (fun ρ' hp => wf_gone (st := 4) (Or.inl rfl) (by omega) h1 h2 h3 h4 h5 h6 h7 h8 h9 j1 hp)
theorem ga_restore {f : Int32} {slot : Row} (h : f = 0 ∨ WF slot t) : GA (sp_restore f slot) t := by
  unfold sp_restore
  split
  · exact ga_no
  · rename_i hf
    refine ga_did (fun ρ' hp => ?_)
    rcases h with z | W
    · exact absurd z hf
    · exact W.congr (by omega) hp
end GAs
