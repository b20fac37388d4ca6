/-! What holds while a rule is read. -/
theorem kid3 (sd : Int) : kid sd = 3 ∨ kid sd = 7 := by unfold kid; split <;> simp
theorem kidn (sd : Int) : ¬ kid sd = 0 ∧ ¬ kid sd = 1 ∧ ¬ kid sd = 2 ∧ ¬ kid sd = 4 ∧ ¬ kid sd = 5 ∧ ¬ kid sd = 6 ∧ ¬ kid sd = 8 := by rcases kid3 sd with e | e <;> rw [e] <;> omega
def rA (s : pS) (sd o : Int) : pS := rcnt (radd s sd o) sd (s 0 0 2) o
section RV
variable {s : pS} {sd o : Int}
theorem rcnt_o {op : Int} {a : Nat} (i : Int) (j : Nat) (h : ¬ a = kid sd) : rcnt s sd op o a i j = s a i j := by
  unfold rcnt; split
  · rfl
  · simp [upE, h]
theorem radd1_o {a : Nat} (i : Int) (j : Nat) (h : ¬ a = 0 ∨ (¬ j = 4 ∧ ¬ j = 5)) : radd1 s sd o a i j = s a i j := by
  unfold radd1; split
  · rcases h with h | h <;> simp [upE, h]
  · rfl
theorem rA_0 (j : Nat) (h : ¬ j = 1 ∧ ¬ j = 4 ∧ ¬ j = 5) : rA s sd o 0 0 j = s 0 0 j := by
  have kn := kidn sd
  unfold rA radd
  rw [rcnt_o _ _ (by omega)]
  split
  · rw [radd1_o _ _ (by omega)]; simp [radd0, upE, h]
  · unfold rhang; simp [upE]; rw [radd1_o _ _ (by omega)]; simp [radd0, upE, h]
theorem rA_1 : rA s sd o 0 0 1 = s 0 0 1 + 1 := by
  have kn := kidn sd
  unfold rA radd
  rw [rcnt_o _ _ (by omega)]
  split
  · rw [radd1_o _ _ (by omega)]; simp [radd0, upE]
  · unfold rhang; simp [upE]; rw [radd1_o _ _ (by omega)]; simp [radd0, upE]
theorem rA_45 : rA s sd o 0 0 4 = s 0 0 4 + (if sd = 0 ∧ o = 5 then 1 else 0) ∧ rA s sd o 0 0 5 = s 0 0 5 + (if sd = 0 ∧ o = 2 then 1 else 0) := by
  have kn := kidn sd
  have e : radd1 (radd0 s o) sd o 0 0 4 = s 0 0 4 + (if sd = 0 ∧ o = 5 then 1 else 0) ∧ radd1 (radd0 s o) sd o 0 0 5 = s 0 0 5 + (if sd = 0 ∧ o = 2 then 1 else 0) := by
    unfold radd1; split
    · rename_i h; simp [radd0, upE, h]
    · rename_i h; simp [radd0, upE, h]
  unfold rA radd
  rw [rcnt_o _ _ (by omega), rcnt_o _ _ (by omega)]
  split
  · exact e
  · unfold rhang; simp [upE]; exact e
theorem rA_old {i : Int} (j : Nat) (hi : ¬ i = s 0 0 1) : rA s sd o 1 i j = s 1 i j + (if ¬ s 0 0 2 = -1 ∧ i = s 0 0 2 then (if j = 6 then 1 else if j = 7 ∧ o = 5 then 1 else 0) else 0) := by
  have kn := kidn sd
  unfold rA radd
  rw [rcnt_o _ _ (by omega)]
  by_cases c : s 0 0 2 = -1
  · rw [if_pos c, radd1_o _ _ (by omega)]; simp [radd0, upE, hi, c]
  · rw [if_neg c]
    unfold rhang
    have e : ∀ k l, ¬ k = s 0 0 1 → radd1 (radd0 s o) sd o 1 k l = s 1 k l := fun k l hk => by rw [radd1_o _ _ (by omega)]; simp [radd0, upE, hk]
    by_cases d : i = s 0 0 2
    · have d2 : ¬ s 0 0 2 = s 0 0 1 := by omega
      subst d
      by_cases c6 : j = 6
      · subst c6; simp [upE, d2, c, e]
      · by_cases c7 : j = 7
        · subst c7; simp [upE, d2, c, e]
        · simp [upE, d2, c, c6, c7, e]
    · simp [upE, hi, d, c, e]
theorem rA_new (hop : ¬ s 0 0 2 = s 0 0 1) : rA s sd o 1 (s 0 0 1) 0 = o ∧ rA s sd o 1 (s 0 0 1) 1 = -1 ∧ rA s sd o 1 (s 0 0 1) 2 = -1 ∧ rA s sd o 1 (s 0 0 1) 3 = s 0 0 2 ∧
    rA s sd o 1 (s 0 0 1) 4 = (if s 0 0 2 = -1 then -1 else if s 1 (s 0 0 2) 6 = 0 then -1 else s 2 (s 0 0 2) 0) ∧ rA s sd o 1 (s 0 0 1) 5 = (if s 0 0 2 = -1 then s 1 (s 0 0 1) 5 else s 1 (s 0 0 2) 6) ∧
    rA s sd o 1 (s 0 0 1) 6 = s 1 (s 0 0 1) 6 ∧ rA s sd o 1 (s 0 0 1) 7 = s 1 (s 0 0 1) 7 ∧ rA s sd o 1 (s 0 0 1) 8 = (if s 0 0 2 = -1 then s 1 (s 0 0 1) 8 else s 1 (s 0 0 2) 7 + (if o = 5 then 1 else 0)) ∧
    (∀ j, 9 ≤ j → rA s sd o 1 (s 0 0 1) j = s 1 (s 0 0 1) j) := by
  have kn := kidn sd
  have e : ∀ k l, ¬ k = s 0 0 1 → radd1 (radd0 s o) sd o 1 k l = s 1 k l := fun k l hk => by rw [radd1_o _ _ (by omega)]; simp [radd0, upE, hk]
  have e2 : ∀ k l, radd1 (radd0 s o) sd o 2 k l = s 2 k l := fun k l => by rw [radd1_o _ _ (by omega)]; simp [radd0, upE]
  have hop2 : ¬ s 0 0 1 = s 0 0 2 := fun h => hop h.symm
  have en : ∀ l, radd1 (radd0 s o) sd o 1 (s 0 0 1) l = radd0 s o 1 (s 0 0 1) l := fun l => radd1_o _ _ (by omega)
  have rc : ∀ j, rA s sd o 1 (s 0 0 1) j = radd s sd o 1 (s 0 0 1) j := fun j => by unfold rA; rw [rcnt_o _ _ (by omega)]
  simp only [rc]
  unfold radd
  by_cases c : s 0 0 2 = -1
  · simp only [if_pos c, en]
    refine ⟨?_, ?_, ?_, ?_, ?_, ?_, ?_, ?_, ?_, fun j hj => ?_⟩
    all_goals try simp [radd0, upE]
    · rw [if_neg (by omega), if_neg (by omega), if_neg (by omega), if_neg (by omega), if_neg (by omega)]
  · simp only [if_neg c]
    unfold rhang
    refine ⟨?_, ?_, ?_, ?_, ?_, ?_, ?_, ?_, ?_, fun j hj => ?_⟩
    all_goals simp [upE, hop, hop2, en, e, e2]
    all_goals simp [radd0, upE]
    all_goals omega
theorem rput_o {w a b f l : Int} {c : Nat} (i : Int) (j : Nat) (h : ¬ c = kid sd) (h2 : ¬ c = 0 ∨ ¬ j = kid sd) : rput s sd w a b f l c i j = s c i j := by
  unfold rput; simp [upE, h]; intro h3 _ h4; omega
theorem rtok_o {it w a b f l : Int} {c : Nat} (i : Int) (j : Nat) (h : ¬ c = kid sd) (h2 : ¬ c = 0 ∨ ¬ j = kid sd) (h3 : ¬ c = 4) : rtok s sd it w a b f l c i j = s c i j := by
  unfold rtok; rw [upE, if_neg (by omega)]; exact rput_o _ _ h h2
theorem rtok_k {it w a b f l : Int} : rtok s sd it w a b f l 0 0 (kid sd) = s 0 0 (kid sd) + 1 := by
  have kn := kidn sd
  unfold rtok rput; simp [upE]
theorem rtok_4 {it w a b f l : Int} (i : Int) : rtok s sd it w a b f l 4 i 0 = if i = it then s 0 0 (kid sd) else s 4 i 0 := by
  have kn := kidn sd
  unfold rtok; rw [upE]
  by_cases c : i = it
  · rw [if_pos ⟨rfl, c, rfl⟩, if_pos c]
  · rw [if_neg (by omega), if_neg c]; exact rput_o _ _ (by omega) (by omega)
theorem rfin_o {x : Int} {c : Nat} (i : Int) (j : Nat) (h : ¬ (c = 1 ∧ j = 9)) (h2 : ¬ (c = 0 ∧ j = 2)) : rfin s x c i j = s c i j := by
  unfold rfin
  split
  · simp only [upE]; rw [if_neg (by omega), if_neg (by omega)]
  · split
    · simp only [upE]; rw [if_neg (by omega), if_neg (by omega), if_neg (by omega), if_neg (by omega)]
    · simp only [upE]; rw [if_neg (by omega), if_neg (by omega)]
theorem rfin_h {x : Int} (i : Int) (j : Nat) (h3 : s 1 x 3 < x) (h : j = 0 ∨ j = 3 ∨ j = 6 ∨ j = 7 ∨ x < i) : rfin s x 1 i j = s 1 i j := by
  unfold rfin
  split
  · simp only [upE]; rw [if_neg (by omega), if_neg (by omega)]
  · split
    · simp only [upE]; rw [if_neg (by omega), if_neg (by omega), if_neg (by omega), if_neg (by omega)]
    · simp only [upE]; rw [if_neg (by omega), if_neg (by omega)]
theorem rfin_2 {x : Int} : rfin s x 0 0 2 = rT s x := by
  unfold rfin rT
  split
  · simp [upE]
  · split <;> simp [upE]
/-- an item has been added -/
def rB (sd o : Int) (s s' : pS) : Prop := s' 0 0 1 = s 0 0 1 + 1 ∧ s' 0 0 (kid sd) = s 0 0 (kid sd) + 1 ∧ (s 0 0 4 ≤ s' 0 0 4 ∧ s' 0 0 4 ≤ s 0 0 4 + 1) ∧ (s 0 0 5 ≤ s' 0 0 5 ∧ s' 0 0 5 ≤ s 0 0 5 + 1) ∧
  (∀ i, ¬ i = s 0 0 1 → s' 1 i 0 = s 1 i 0 ∧ s' 1 i 3 = s 1 i 3 ∧ (s 1 i 6 ≤ s' 1 i 6 ∧ s' 1 i 6 ≤ s 1 i 6 + 1) ∧ (s 1 i 7 ≤ s' 1 i 7 ∧ s' 1 i 7 ≤ s 1 i 7 + 1) ∧ s' 4 i 0 = s 4 i 0) ∧
  (s' 1 (s 0 0 1) 0 = o ∧ s' 1 (s 0 0 1) 3 = s 0 0 2 ∧ s' 1 (s 0 0 1) 6 = s 1 (s 0 0 1) 6 ∧ s' 1 (s 0 0 1) 7 = s 1 (s 0 0 1) 7 ∧ s' 4 (s 0 0 1) 0 = s 0 0 (kid sd)) ∧
  (∀ i j, s 0 0 1 < i → s' 1 i j = s 1 i j)
theorem rJ_add {n b0 : Int} {s' : pS} (v : rV n sd b0 s) (b : rB sd o s s') (ho : o = 2 → s 0 0 2 = -1 ∨ s 1 (s 0 0 2) 0 = 4) : rJ sd b0 s' := by
  obtain ⟨vi, vj, vo, ve⟩ := v
  obtain ⟨i1, i2, i3, i4, i5, i6, i7, i8, i9⟩ := vi
  obtain ⟨b1, b2, b3, b4, b5, b6, b7⟩ := b
  intro i h0 h1
  rw [b1] at h1 ⊢
  rw [b2]
  by_cases c : i = s 0 0 1
  · subst c
    rw [b6.1, b6.2.1, b6.2.2.1, b6.2.2.2.1, b6.2.2.2.2, ve _ _ (Int.le_refl _), ve _ _ (Int.le_refl _)]
    refine ⟨?_, ?_, by omega, by omega, by omega, by omega, by omega, by omega⟩
    · by_cases d : s 0 0 2 = -1
      · exact Or.inl d
      · have := i8 d
        rw [(b5 (s 0 0 2) (by omega)).1]
        exact Or.inr ⟨this.1, by omega, this.2⟩
    · intro d
      by_cases d2 : s 0 0 2 = -1
      · exact Or.inl d2
      · rw [(b5 (s 0 0 2) (by omega)).1]; exact ho d
  · have y := vj i h0 (by omega)
    have w := b5 i c
    rw [w.1, w.2.1, w.2.2.2.2]
    have e : ¬ s 1 i 3 = -1 → s' 1 (s 1 i 3) 0 = s 1 (s 1 i 3) 0 := fun d => (b5 _ (by omega)).1
    refine ⟨?_, ?_, by omega, by omega, by omega, by omega, by omega, by omega⟩
    · rcases y.1 with d | d
      · exact Or.inl d
      · rw [e (by omega)]; exact Or.inr d
    · intro d
      rcases y.2.1 d with d2 | d2
      · exact Or.inl d2
      · by_cases d3 : s 1 i 3 = -1
        · exact Or.inl d3
        · rw [e d3]; exact Or.inr d2
theorem rT_add {n b0 : Int} {s' : pS} (v : rV n sd b0 s) (b : rB sd o s s') {i : Int} (h0 : b0 ≤ i) (h1 : i < s 0 0 1) : rT s' i = rT s i := by
  obtain ⟨vi, vj, vo, ve⟩ := v
  obtain ⟨b1, b2, b3, b4, b5, b6, b7⟩ := b
  have y := vj i h0 h1
  unfold rT
  rw [(b5 i (by omega)).2.1]
  by_cases c : s 1 i 3 = -1
  · rw [if_pos c, if_pos c]
  · rw [if_neg c, if_neg c, (b5 (s 1 i 3) (by omega)).1, (b5 (s 1 i 3) (by omega)).2.1]
theorem rE_add {n b0 : Int} {s' : pS} (v : rV n sd b0 s) (b : rB sd o s s') : rE s' := by
  obtain ⟨vi, vj, vo, ve⟩ := v
  intro i j h
  rw [b.1] at h
  rw [b.2.2.2.2.2.2 i j (by omega)]
  exact ve i j (by omega)
/-- the term around the new item -/
theorem rT_new {n b0 : Int} {s' : pS} (v : rV n sd b0 s) (b : rB sd o s s') : rT s' (s 0 0 1) = (if s 0 0 2 = -1 then -1 else if s 1 (s 0 0 2) 0 = 2 then s 1 (s 0 0 2) 3 else s 0 0 2) := by
  obtain ⟨vi, vj, vo, ve⟩ := v
  obtain ⟨i1, i2, i3, i4, i5, i6, i7, i8, i9⟩ := vi
  obtain ⟨b1, b2, b3, b4, b5, b6, b7⟩ := b
  unfold rT
  rw [b6.2.1]
  by_cases c : s 0 0 2 = -1
  · rw [if_pos c, if_pos c]
  · rw [if_neg c, if_neg c, (b5 (s 0 0 2) (by omega)).1, (b5 (s 0 0 2) (by omega)).2.1]
theorem rV_leaf {n b0 : Int} {s' : pS} (v : rV n sd b0 s) (b : rB sd o s s') (ho : ¬ o = 2) (h20 : ¬ s 0 0 1 - b0 = 20) (hp : 0 ≤ s' 0 0 0 ∧ s' 0 0 0 ≤ n) (h6 : s' 0 0 6 = s 0 0 6) (hs : ∀ k, s' 6 k 0 = s 6 k 0) (h2 : s' 0 0 2 = rT s' (s 0 0 1)) : rV n sd b0 s' := by
  have j := rJ_add v b (fun c => absurd c ho)
  have e := rE_add v b
  have tn := rT_new v b
  have ta := fun {i : Int} => rT_add (i := i) v b
  have v0 := v
  obtain ⟨vi, vj, vo, ve⟩ := v
  obtain ⟨i1, i2, i3, i4, i5, i6, i7, i8, i9, i10, i11, i12, i13, i14, i15, i16, i17⟩ := vi
  have b0' := b
  obtain ⟨b1, b2, b3, b4, b5, b6, b7⟩ := b
  have op : s' 0 0 2 = if s 0 0 6 = 0 then -1 else s 6 (s 0 0 6 - 1) 0 := by rw [h2, tn, vo.2]
  have top : ¬ s 0 0 6 = 0 → b0 ≤ s 6 (s 0 0 6 - 1) 0 ∧ s 6 (s 0 0 6 - 1) 0 < s 0 0 1 ∧ s' 1 (s 6 (s 0 0 6 - 1) 0) 0 = 4 := by
    intro c
    have w := vo.1 (s 0 0 6 - 1) (by omega) (by omega)
    refine ⟨w.1, w.2.1, ?_⟩
    rw [(b5 _ (by omega)).1]; exact w.2.2.1
  refine ⟨⟨hp.1, hp.2, i3, by omega, by omega, ?_, ?_, ?_, by omega, by omega, by omega, by omega, by omega, by omega, by omega, by omega, ?_⟩, j, ⟨fun k k0 k1 => ?_, ?_⟩, e⟩
  · rw [op]; split
    · omega
    · have := top (by assumption); omega
  · rw [op]; split
    · omega
    · have := top (by assumption); omega
  · intro c
    rw [op] at c ⊢
    by_cases d : s 0 0 6 = 0
    · rw [if_pos d] at c; omega
    · rw [if_neg d]; have := top d; exact ⟨this.1, Or.inr this.2.2⟩
  · intro c c2
    rw [op] at c c2
    by_cases d : s 0 0 6 = 0
    · rw [if_pos d] at c; omega
    · rw [if_neg d] at c2; have := top d; omega
  · rw [h6] at k1
    have w := vo.1 k k0 k1
    rw [hs, hs, b1, ta w.1 w.2.1, (b5 _ (by omega)).1]
    exact ⟨w.1, by omega, w.2.2⟩
  · rw [h6, hs, op]
    by_cases d : s 0 0 6 = 0
    · rw [if_pos d, if_pos rfl]
    · have := top d
      rw [if_neg d, if_neg (by omega), if_neg (by omega)]
theorem rV_deep {n b0 : Int} {s' : pS} (v : rV n sd b0 s) (b : rB sd 2 s s') (ho : s 0 0 2 = -1 ∨ s 1 (s 0 0 2) 0 = 4) (hsd : sd = 0 ∧ 1 ≤ s' 0 0 5) (h20 : ¬ s 0 0 1 - b0 = 20) (hp : 0 ≤ s' 0 0 0 ∧ s' 0 0 0 ≤ n) (h6 : s' 0 0 6 = s 0 0 6) (hs : ∀ k, s' 6 k 0 = s 6 k 0) (h2 : s' 0 0 2 = s 0 0 1) : rV n sd b0 s' := by
  have j := rJ_add v b (fun _ => ho)
  have e := rE_add v b
  have ta := fun {i : Int} => rT_add (i := i) v b
  obtain ⟨vi, vj, vo, ve⟩ := v
  obtain ⟨i1, i2, i3, i4, i5, i6, i7, i8, i9, i10, i11, i12, i13, i14, i15, i16, i17⟩ := vi
  obtain ⟨b1, b2, b3, b4, b5, b6, b7⟩ := b
  refine ⟨⟨hp.1, hp.2, i3, by omega, by omega, by omega, by omega, fun c => ?_, by omega, by omega, by omega, by omega, by omega, by omega, by omega, by omega, fun _ _ => hsd⟩, j, ⟨fun k k0 k1 => ?_, ?_⟩, e⟩
  · rw [h2, b6.1]; exact ⟨i4, Or.inl rfl⟩
  · rw [h6] at k1
    have w := vo.1 k k0 k1
    rw [hs, hs, b1, ta w.1 w.2.1, (b5 _ (by omega)).1]
    exact ⟨w.1, by omega, w.2.2⟩
  · rw [h6, hs, h2, b6.1, b6.2.1, if_neg (by omega), if_pos rfl, ← vo.2]
    rcases ho with d | d
    · rw [if_pos d]; exact d
    · by_cases d2 : s 0 0 2 = -1
      · rw [if_pos d2]; exact d2
      · rw [if_neg d2, if_neg (by omega)]
theorem rV_term {n b0 : Int} {s' : pS} (v : rV n sd b0 s) (b : rB sd 4 s s') (h20 : ¬ s 0 0 1 - b0 = 20) (hp : 0 ≤ s' 0 0 0 ∧ s' 0 0 0 ≤ n) (h6 : s' 0 0 6 = s 0 0 6 + 1) (hs : ∀ k, s' 6 k 0 = if k = s 0 0 6 then s 0 0 1 else s 6 k 0) (h2 : s' 0 0 2 = s 0 0 1) : rV n sd b0 s' := by
  have j := rJ_add v b (fun c => absurd c (by omega))
  have e := rE_add v b
  have tn := rT_new v b
  have ta := fun {i : Int} => rT_add (i := i) v b
  obtain ⟨vi, vj, vo, ve⟩ := v
  obtain ⟨i1, i2, i3, i4, i5, i6, i7, i8, i9, i10, i11, i12, i13, i14, i15, i16, i17⟩ := vi
  obtain ⟨b1, b2, b3, b4, b5, b6, b7⟩ := b
  refine ⟨⟨hp.1, hp.2, i3, by omega, by omega, by omega, by omega, fun c => ?_, by omega, by omega, by omega, by omega, by omega, by omega, by omega, by omega, fun _ c => by rw [h2, b6.1] at c; omega⟩, j, ⟨fun k k0 k1 => ?_, ?_⟩, e⟩
  · rw [h2, b6.1]; exact ⟨i4, Or.inr rfl⟩
  · rw [h6] at k1
    have hk1 : s' 6 (k - 1) 0 = s 6 (k - 1) 0 := by rw [hs, if_neg (by omega)]
    rw [hk1, b1]
    by_cases c : k = s 0 0 6
    · rw [hs, if_pos c, b6.1, tn, vo.2, c]
      exact ⟨i4, by omega, rfl, rfl⟩
    · have w := vo.1 k k0 (by omega)
      rw [hs, if_neg c, ta w.1 w.2.1, (b5 _ (by omega)).1]
      exact ⟨w.1, by omega, w.2.2⟩
  · rw [h6, h2, b6.1, if_neg (by omega), if_neg (by omega), if_neg (by omega), hs, if_pos (by omega)]
/-- a term is closed -/
theorem rV_close {n b0 : Int} {s' : pS} (v : rV n sd b0 s) (hop : ¬ s 0 0 2 = -1) (h4 : s 1 (s 0 0 2) 0 = 4) (hp : 0 ≤ s' 0 0 0 ∧ s' 0 0 0 ≤ n) (h1 : s' 0 0 1 = s 0 0 1) (h45 : s' 0 0 4 = s 0 0 4 ∧ s' 0 0 5 = s 0 0 5) (hk : s' 0 0 (kid sd) = s 0 0 (kid sd) + 1) (h6 : s' 0 0 6 = s 0 0 6 - 1) (hs : ∀ k, s' 6 k 0 = s 6 k 0)
    (h2 : s' 0 0 2 = rT s (s 0 0 2)) (ha : ∀ i j, ¬ j = 9 → s' 1 i j = s 1 i j) (hm : ∀ i, s' 4 i 0 = s 4 i 0) (he : ∀ i j, s 0 0 1 ≤ i → s' 1 i j = s 1 i j) : rV n sd b0 s' := by
  obtain ⟨vi, vj, vo, ve⟩ := v
  obtain ⟨i1, i2, i3, i4, i5, i6, i7, i8, i9, i10, i11, i12, i13, i14, i15, i16, i17⟩ := vi
  have t6 : ¬ s 0 0 6 = 0 ∧ s 6 (s 0 0 6 - 1) 0 = s 0 0 2 := by
    have := vo.2
    rw [if_neg hop, if_neg (by omega)] at this
    by_cases c : s 0 0 6 = 0
    · rw [if_pos c] at this; exact absurd this hop
    · rw [if_neg c] at this; exact ⟨c, this.symm⟩
  have wt := vo.1 (s 0 0 6 - 1) (by omega) (by omega)
  rw [t6.2] at wt
  have op : s' 0 0 2 = if s 0 0 6 - 1 = 0 then -1 else s 6 (s 0 0 6 - 1 - 1) 0 := by rw [h2, wt.2.2.2]
  have top : ¬ s 0 0 6 - 1 = 0 → b0 ≤ s 6 (s 0 0 6 - 1 - 1) 0 ∧ s 6 (s 0 0 6 - 1 - 1) 0 < s 0 0 1 ∧ s 1 (s 6 (s 0 0 6 - 1 - 1) 0) 0 = 4 := by
    intro c
    have w := vo.1 (s 0 0 6 - 1 - 1) (by omega) (by omega)
    exact ⟨w.1, w.2.1, w.2.2.1⟩
  have rt : ∀ i, rT s' i = rT s i := fun i => by unfold rT; rw [ha i 3 (by omega), ha _ 0 (by omega), ha _ 3 (by omega)]
  refine ⟨⟨hp.1, hp.2, i3, by omega, by omega, ?_, ?_, fun c => ?_, by omega, by omega, by omega, by omega, by omega, by omega, by omega, by omega, ?_⟩, fun i i0 i1 => ?_, ⟨fun k k0 k1 => ?_, ?_⟩, fun i j h => ?_⟩
  · rw [op]; split
    · omega
    · have := top (by assumption); omega
  · rw [op]; split
    · omega
    · have := top (by assumption); omega
  · rw [op] at c ⊢
    by_cases d : s 0 0 6 - 1 = 0
    · rw [if_pos d] at c; omega
    · rw [if_neg d, ha _ 0 (by omega)]; have := top d; exact ⟨this.1, Or.inr this.2.2⟩
  · intro c c2
    rw [op] at c c2
    by_cases d : s 0 0 6 - 1 = 0
    · rw [if_pos d] at c; omega
    · rw [if_neg d, ha _ 0 (by omega)] at c2; have := top d; omega
  · rw [h1] at i1
    have y := vj i i0 i1
    rw [ha i 3 (by omega), ha i 0 (by omega), ha _ 0 (by omega), ha i 6 (by omega), ha i 7 (by omega), hm, h1, hk]
    exact ⟨y.1, y.2.1, y.2.2.1, y.2.2.2.1, y.2.2.2.2.1, y.2.2.2.2.2.1, y.2.2.2.2.2.2.1, by omega⟩
  · rw [h6] at k1
    have w := vo.1 k k0 (by omega)
    rw [hs, hs, h1, rt, ha _ 0 (by omega)]
    exact w
  · rw [h6, hs, op]
    by_cases d : s 0 0 6 - 1 = 0
    · rw [if_pos d, if_pos rfl]
    · have := top d
      rw [if_neg d, if_neg (by omega), ha _ 0 (by omega), if_neg (by omega)]
  · rw [h1] at h
    rw [he i j h]; exact ve i j h
end RV
