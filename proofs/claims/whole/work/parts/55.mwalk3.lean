/-! The model's walk along a pattern, item by item. -/
theorem cntf_ap {f : Int → Int} {a w : Int} (d : Nat) : ∀ k, cntf f a w (d + k) = cntf f a w d + cntf f (a + d) w k
  | 0 => by rw [Nat.add_zero]; show _ = _ + 0; omega
  | k + 1 => by
    rw [show d + (k + 1) = (d + k) + 1 by omega, cntf_s, cntf_s, cntf_ap d k, show a + ((d + k : Nat) : Int) = a + (d : Int) + (k : Int) by omega]
    omega
theorem cntf_0 {f : Int → Int} {a w : Int} : ∀ k, 0 ≤ cntf f a w k
  | 0 => Int.le_refl _
  | k + 1 => by rw [cntf_s]; have := cntf_0 (f := f) (a := a) (w := w) k; split <;> omega
/-- how many items choose, ahead of j -/
def kcn (s : pS) (bs j : Int) : Int := cntf (fun i => s 1 i 0) bs 5 (j - bs).toNat + cntf (fun i => s 1 i 0) bs 2 (j - bs).toNat
theorem kcn_s {s : pS} {bs j : Int} (h : bs ≤ j) : kcn s bs (j + 1) = kcn s bs j + (if s 1 j 0 = 5 ∨ s 1 j 0 = 2 then 1 else 0) := by
  unfold kcn
  rw [show (j + 1 - bs).toNat = (j - bs).toNat + 1 by omega, cntf_s, cntf_s, show bs + ((j - bs).toNat : Int) = j by omega]
  by_cases c : s 1 j 0 = 5
  · rw [if_pos c, if_neg (by omega), if_pos (Or.inl c)]; omega
  · by_cases d : s 1 j 0 = 2
    · rw [if_neg c, if_pos d, if_pos (Or.inr d)]; omega
    · rw [if_neg c, if_neg d, if_neg (by omega)]; omega
theorem kcn_3 {m bs j : Int} {s : pS} {w : Int → Int} (x : rEn w m 0 0 s) (h0 : 0 ≤ bs) (h : bs ≤ j) (h1 : j ≤ s 0 0 1) : 0 ≤ kcn s bs j ∧ kcn s bs j ≤ 3 := by
  have q := x.1.2.2.2.2 rfl
  have sub : ∀ o, cntf (fun i => s 1 i 0) bs o (j - bs).toNat ≤ cntf (fun i => s 1 i 0) 0 o (s 0 0 1 - 0).toNat := by
    intro o
    rw [show (s 0 0 1 - 0).toNat = bs.toNat + ((j - bs).toNat + (s 0 0 1 - j).toNat) by omega, cntf_ap, cntf_ap, show (0 : Int) + (bs.toNat : Int) = bs by omega]
    have a := cntf_0 (f := fun i => s 1 i 0) (a := 0) (w := o) bs.toNat
    have b := cntf_0 (f := fun i => s 1 i 0) (a := bs + ((j - bs).toNat : Int)) (w := o) (s 0 0 1 - j).toNat
    omega
  have a := sub 5
  have b := sub 2
  have c := cntf_0 (f := fun i => s 1 i 0) (a := bs) (w := 5) (j - bs).toNat
  have d := cntf_0 (f := fun i => s 1 i 0) (a := bs) (w := 2) (j - bs).toNat
  unfold kcn
  omega
section WB
variable {h h0 : zH} {t w : Int → Int} {n nd nc m z bs v : Int} {T C : pT} {s : pS} {ch : Nat → Nat}
/-- an item's own token -/
theorem rEn.ct (x : rEn w m 0 0 s) {j : Int} (j0 : 0 ≤ j) (j1 : j < s 0 0 1) :
    (s 1 j 0 = 0 ∧ s 3 (s 4 j 0) 0 = 0 ∧ s 1 j 1 = -1) ∨ (s 1 j 0 = 2 ∧ s 3 (s 4 j 0) 0 = 2 ∧ s 1 j 1 = -1) ∨
    (s 1 j 0 = 1 ∧ s 3 (s 4 j 0) 0 = 1 ∧ 0 ≤ s 1 j 1 ∧ s 1 j 1 < 26 ∧ s 3 (s 4 j 0) 1 = s 1 j 1 ∧ s 3 (s 4 j 0) 2 = s 1 j 2 ∧ s 5 (s 1 j 1) 0 = 1) ∨
    (s 1 j 0 = 5 ∧ s 3 (s 4 j 0) 0 = 6 ∧ 0 ≤ s 1 j 1 ∧ s 1 j 1 < 26 ∧ s 3 (s 4 j 0) 1 = s 1 j 1 ∧ s 5 (s 1 j 1) 0 = 2) ∨
    (s 1 j 0 = 3 ∧ s 1 j 1 = -1 ∧ s 3 (s 4 j 0) 3 = s 1 j 10 ∧ s 3 (s 4 j 0) 4 = s 1 j 11 ∧ 0 ≤ s 1 j 10 ∧ 1 ≤ s 1 j 11 ∧ s 1 j 11 ≤ 8 ∧ s 1 j 10 + s 1 j 11 ≤ m ∧ ((s 3 (s 4 j 0) 0 = 3 ∧ isL (w (s 1 j 10))) ∨ (s 3 (s 4 j 0) 0 = 4 ∧ isD (w (s 1 j 10))))) ∨
    (s 1 j 0 = 4 ∧ s 3 (s 4 j 0) 0 = 5 ∧ s 1 j 1 = -1 ∧ s 3 (s 4 j 0) 3 = s 1 j 10 ∧ s 3 (s 4 j 0) 4 = s 1 j 11 ∧ 0 ≤ s 1 j 10 ∧ 1 ≤ s 1 j 11 ∧ s 1 j 11 ≤ 8 ∧ s 1 j 10 + s 1 j 11 ≤ m) := by
  have c := x.1.2.2.1 j j0 j1
  unfold cIt at c
  rw [show kid 0 = 3 from rfl] at c
  obtain ⟨c1, c2, c3, c4⟩ := c
  unfold cN at c1
  rcases c1 with q | q | q | q | q | q
  · exact Or.inl ⟨q.1, q.2.1, q.2.2.1⟩
  · exact Or.inr (Or.inl ⟨q.1, q.2.1, q.2.2.1⟩)
  · obtain ⟨o, qw, l0, l1, qa, qb, qr⟩ := q
    rw [if_neg (by omega)] at qa
    rw [if_pos o] at qb
    have c3 := c3 l0
    rw [if_neg (by omega)] at c3
    exact Or.inr (Or.inr (Or.inl ⟨o, qw, l0, l1, qa, qb, c3⟩))
  · obtain ⟨o, qw, l0, l1, qa, qr⟩ := q
    rw [if_neg (by omega)] at qa
    have c3 := c3 l0
    rw [if_pos o] at c3
    exact Or.inr (Or.inr (Or.inr (Or.inl ⟨o, qw, l0, l1, qa, c3⟩)))
  · exact Or.inr (Or.inr (Or.inr (Or.inr (Or.inl ⟨q.1, q.2.1, q.2.2.2.1.symm, q.2.2.2.2.1.symm, q.2.2.2.2.2.1, q.2.2.2.2.2.2.1, q.2.2.2.2.2.2.2.1, q.2.2.2.2.2.2.2.2.1, q.2.2.2.2.2.2.2.2.2⟩))))
  · exact Or.inr (Or.inr (Or.inr (Or.inr (Or.inr ⟨q.1, q.2.1, q.2.2.2.1, q.2.2.2.2.2.1.symm, q.2.2.2.2.2.2.1.symm, q.2.2.2.2.2.2.2.1, q.2.2.2.2.2.2.2.2.1, q.2.2.2.2.2.2.2.2.2.1, q.2.2.2.2.2.2.2.2.2.2⟩))))
/-- letters that hold, one more item -/
theorem mIh_n {st : fZ} {j a l r y f : Int} (b0 : 0 ≤ bs) (hj : bs ≤ j) (i : mIh h s bs st j) (hn : s 1 j 1 = -1) {P : Nat → Int → Prop} {h2 : zH} (fr : frP P h h2) (d : ∀ k, ¬ P 146 k ∧ ¬ P 147 k) : mIh h2 s bs (fU st j a l r y f) (j + 1) := by
  intro k k0 k1
  have q := i k k0 k1
  have rg := hF_rg (s := s) (l := k) hj
  rw [hF_s b0 hj, if_neg (show ¬ s 1 j 1 = k by omega), fr.1 _ _ (d k).1, fr.1 _ _ (d k).2]
  by_cases c : hF s bs k j = -1
  · rw [if_pos c]; exact ⟨fun _ => q.1 c, fun e => absurd rfl e⟩
  · rw [if_neg c, fU_o (by omega), fU_o (by omega)]; exact q
theorem mIh_y {st : fZ} {j a l r y f : Int} (b0 : 0 ≤ bs) (hj : bs ≤ j) (i : mIh h s bs st j) {P : Nat → Int → Prop} {h2 : zH} (fr : frP P h h2) (d : ∀ k, ¬ P 146 k ∧ ¬ P 147 k) (hl : 0 ≤ s 1 j 1 ∧ s 1 j 1 < 26) : (hF s bs (s 1 j 1) j = -1 → mIh (sI (sI h2 146 (s 1 j 1) a) 147 (s 1 j 1) r) s bs (fU st j a l r y f) (j + 1)) ∧ (¬ hF s bs (s 1 j 1) j = -1 → mIh h2 s bs (fU st j a l r y f) (j + 1)) := by
  refine ⟨fun e k k0 k1 => ?_, fun e k k0 k1 => ?_⟩
  all_goals
    have q := i k k0 k1
    have rg := hF_rg (s := s) (l := k) hj
    rw [hF_s b0 hj]
  · by_cases c : s 1 j 1 = k
    · subst c
      rw [if_pos e, if_pos rfl, fU_2, fU_0, gS1, gS, if_neg (by omega), gS1]
      exact ⟨fun _ => by omega, fun _ => ⟨rfl, rfl⟩⟩
    · have g7 : gI (sI (sI h2 146 (s 1 j 1) a) 147 (s 1 j 1) r) 147 k = gI h2 147 k := by rw [gS, if_neg (by omega), gS, if_neg (by omega)]
      have g6 : gI (sI (sI h2 146 (s 1 j 1) a) 147 (s 1 j 1) r) 146 k = gI h2 146 k := by rw [gS, if_neg (by omega), gS, if_neg (by omega)]
      rw [if_neg c, g7, g6, fr.1 _ _ (d k).1, fr.1 _ _ (d k).2]
      by_cases c1 : hF s bs k j = -1
      · rw [if_pos c1]; exact ⟨fun _ => q.1 c1, fun e => absurd rfl e⟩
      · rw [if_neg c1, fU_o (by omega), fU_o (by omega)]; exact q
  · rw [fr.1 _ _ (d k).1, fr.1 _ _ (d k).2]
    by_cases c1 : hF s bs k j = -1
    · have c : ¬ s 1 j 1 = k := fun c => e (by rw [c]; exact c1)
      rw [if_pos c1, if_neg c]; exact ⟨fun _ => q.1 c1, fun e => absurd rfl e⟩
    · rw [if_neg c1, fU_o (by omega), fU_o (by omega)]; exact q
/-- a hole that was held before -/
theorem asb_h (x : rEn w m 0 0 s) (b : bsI s 0 bs) {st : fZ} {j a r : Int} (j0 : bs ≤ j) (h1 : j < bs + s 1 bs 9) (vd : fVd nd T s bs st j) (h1o : s 1 j 0 = 1) (hf : ¬ hF s bs (s 1 j 1) j = -1) :
    (0 ≤ st 0 (hF s bs (s 1 j 1) j) ∧ st 0 (hF s bs (s 1 j 1) j) < nd) ∧ (asb t T s bs (fO T st j a r 0) j ↔ alk t T (st 0 (hF s bs (s 1 j 1) j)) a) := by
  have b1 := b.1
  have sp := x.sp b.1 b.2.1
  rcases hF_rg (s := s) (bs := bs) (l := s 1 j 1) j0 with q | q
  · exact absurd q hf
  have cj := x.ct (j := j) (by omega) (by omega)
  have cf := x.ct (j := hF s bs (s 1 j 1) j) (by omega) (by omega)
  rw [q.2.2] at cf
  have f1 : s 1 (hF s bs (s 1 j 1) j) 0 = 1 := by omega
  have jn : ¬ s 1 j 1 = -1 := by omega
  have vf := (vd _ q.1 q.2.1).1 (by omega)
  clear cj cf
  have e3 := vf.2.2.2 (by omega)
  refine ⟨⟨vf.1, vf.2.1⟩, ?_⟩
  unfold asb fO
  generalize hF s bs (s 1 j 1) j = y at *
  have yj : ¬ y = j := by omega
  rw [fU_o yj, fU_o yj, fU_o yj, fU_0, fU_2, fU_3, vf.2.2.1, e3, show a + ((0 : Nat) : Int) = a by omega, show st 0 y + T (st 0 y) 6 - st 0 y = T (st 0 y) 6 by omega, show a + T a 6 - a = T a 6 by omega]
  unfold alk
  constructor
  · intro c
    rcases c with c | c | c
    · exact absurd c jn
    · exact absurd c hf
    · rw [c.2.1]; exact ⟨rfl, c.2.2⟩
  · intro c
    refine Or.inr (Or.inr ⟨rfl, c.1, ?_⟩)
    rw [← c.1]; exact c.2
/-- a row that was held before -/
theorem asb_r (g : sF t n nd nc T C) (x : rEn w m 0 0 s) (b : bsI s 0 bs) (hv : 0 ≤ v ∧ v < nd) {st : fZ} {j : Int} {c : Nat} (j0 : bs < j) (h1 : j < bs + s 1 bs 9) (vd : fVd nd T s bs st j) (h5 : s 1 j 0 = 5) (h4 : s 1 (s 1 j 3) 0 = 4) (hc : (c : Int) ≤ fR T s bs st j) (hf : ¬ hF s bs (s 1 j 1) j = -1) :
    (st 2 (hF s bs (s 1 j 1) j) = c → ∃ e, vrw nd T e c (st 0 (hF s bs (s 1 j 1) j))) ∧ (asb t T s bs (fW T st j (fA s bs v st j) (fR T s bs st j) c) j ↔ (st 2 (hF s bs (s 1 j 1) j) = c ∧ frl t T c (st 0 (hF s bs (s 1 j 1) j)) (fA s bs v st j))) := by
  have b1 := b.1
  have sp := x.sp b.1 b.2.1
  have vs := fVs_of g x b hv vd (by omega) h1
  have pj := vs.1 j0 h4
  rcases hF_rg (s := s) (bs := bs) (l := s 1 j 1) (show bs ≤ j by omega) with q | q
  · exact absurd q hf
  have cj := x.ct (j := j) (by omega) (by omega)
  have cf := x.ct (j := hF s bs (s 1 j 1) j) (by omega) (by omega)
  rw [q.2.2] at cf
  have f1 : s 1 (hF s bs (s 1 j 1) j) 0 = 5 := by omega
  have jn : ¬ s 1 j 1 = -1 := by omega
  clear cj cf
  have ro := x.ro (y := hF s bs (s 1 j 1) j) (by omega) (by omega) f1
  have fb : bs < hF s bs (s 1 j 1) j := by
    have : ¬ hF s bs (s 1 j 1) j = bs := fun c => b.2.2 (c ▸ f1)
    omega
  have vf := (vd _ q.1 q.2.1).2 fb ro.2
  have bf := x.bj b fb (by omega)
  have pf := (vd (s 1 (hF s bs (s 1 j 1) j) 3) (by omega) (by omega)).1 (by omega)
  unfold asb fW
  generalize hF s bs (s 1 j 1) j = y at *
  have yj : ¬ y = j := by omega
  have e5 := vf.2.2.2.2 f1
  have vw : st 2 y = c → vrw nd T (st 3 y) c (st 0 y) := by
    intro c2
    have := g.vk pf.1 pf.2.1 (k := (T (st 0 (s 1 y 3)) 3 - st 4 y - st 2 y).toNat) (c := c) (by omega)
    rw [← e5, show (T (st 0 (s 1 y 3)) 3 - st 4 y - st 2 y).toNat + c = (T (st 0 (s 1 y 3)) 3 - st 4 y).toNat by omega, ← vf.2.2.2.1] at this
    exact this
  refine ⟨fun c2 => ⟨_, vw c2⟩, ?_⟩
  have vj := g.vk pj.1 pj.2.1 (k := (T (st 0 (s 1 j 3)) 3 - fR T s bs st j).toNat) (c := c) (by omega)
  rw [adv_add, ← pj.2.2.2.2] at vj
  rw [fU_o yj, fU_o yj, fU_o yj, fU_0, fU_2, fU_3]
  constructor
  · intro d
    rcases d with d | d | d
    · exact absurd d jn
    · omega
    · exact ⟨d.1, (frl_rsm g c _ _ _ _ (vw d.1) vj).2 ⟨d.2.1, d.2.2⟩⟩
  · intro d
    have := (frl_rsm g c _ _ _ _ (vw d.1) vj).1 d.2
    exact Or.inr (Or.inr ⟨d.1, this.1, this.2⟩)
/-- a word: letters or digits -/
theorem lit_k (g : sF t n nd nc T C) {a wa : Int} (ha : 0 ≤ a ∧ a < nd) (h9 : 1 ≤ T a 9) {kd : Int} (hk : (kd = 1 ∧ isL (w wa)) ∨ (kd = 0 ∧ isD (w wa))) (sm : sameR t w (T a 8) wa (T a 9)) : (T a 0 = kd ↔ ¬ T a 0 = 2) := by
  have p := g.pw.2.2.2 a ha.1 ha.2
  have e := sm 0 (by omega) (by omega)
  rw [Int.add_zero, Int.add_zero] at e
  have nb : ∀ c : Int, isL c → isD c → False := fun c => by unfold isL isD; omega
  rcases hk with k | k
  · rw [← e] at k
    constructor
    · intro c; omega
    · intro c
      rcases p.1 with q | q | q
      · exact (nb _ k.2 (p.2.2.2.1 q)).elim
      · omega
      · exact absurd q c
  · rw [← e] at k
    constructor
    · intro c; omega
    · intro c
      rcases p.1 with q | q | q
      · omega
      · exact (nb _ (p.2.2.2.2.1 (by omega)) k.2).elim
      · exact absurd q c
end WB
