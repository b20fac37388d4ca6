/-! The model: tests hung together. -/
noncomputable abbrev rwS (rn : Int → Int) (rt : Int → Int → Int) (rs : Int → pS) (x : Int) : List tst := tRw (sP rn rt rs x)
def mTg (h : zH) (rn : Int → Int) (rt : Int → Int → Int) (rs : Int → pS) (G : List tnd) : Prop := gI h 127 54 = G.length ∧ ∀ (j : Nat) (n : tnd), G[j]? = some n → gI h 161 j = n.1 ∧ ∃ k : Nat, k < 40 ∧ gI h 160 j = 40 * n.2.1 + k ∧ (rwS rn rt rs n.2.1)[k]? = some n.2.2
/-- rows that are laid -/
def mLy (h : zH) (rn : Int → Int) (rt : Int → Int → Int) (rs : Int → pS) (Z : Int) : Prop := ∀ x, 0 ≤ x → x < Z → ¬ rn x = 0 → mRw h x (sP rn rt rs x) (rwS rn rt rs x)
def mtTs (b : Nat) (k : Int) : Prop := (b = 127 ∧ (k = 49 ∨ k = 54 ∨ k = 55)) ∨ (150 ≤ b ∧ b ≤ 161)
section MG
variable {h : zH} {rn : Int → Int} {rt : Int → Int → Int} {rs : Int → pS} {G : List tnd} {c x Z : Int}
theorem mTg.fr {P : Nat → Int → Prop} {h1 : zH} (t : mTg h rn rt rs G) (f : frP P h h1) (d : ¬ P 127 54) (d2 : ∀ k, ¬ P 160 k ∧ ¬ P 161 k) : mTg h1 rn rt rs G := by
  refine ⟨by rw [f.1 _ _ d]; exact t.1, fun j n e => ?_⟩
  rw [f.1 _ _ (d2 _).1, f.1 _ _ (d2 _).2]
  exact t.2 j n e
theorem mLy.fr {P : Nat → Int → Prop} {h1 : zH} (t : mLy h rn rt rs Z) (f : frP P h h1) (d : ∀ k, ¬ P 150 k) (d2 : ∀ b k, 151 ≤ b → b ≤ 156 → ¬ P b k) : mLy h1 rn rt rs Z := fun x x0 x1 hn => (t x x0 x1 hn).fr f (d x) d2
theorem s217 {y : tst} {k1 : Nat} (o : slO rn rt rs) (u : mRu h rn rt rs) (ly : mLy h rn rt rs Z) (t : mTg h rn rt rs G) (gz : ∀ (j : Nat) (n : tnd), G[j]? = some n → n.2.1 < Z) (g : tGk (tEq rn rt rs) G) (gr : tGr rn (rwS rn rt rs) G) (hG : G.length < 320) (hx : 0 ≤ x ∧ x < Z) (hZ : Z ≤ 8) (hn : ¬ rn x = 0) (hy : (rwS rn rt rs x)[k1]? = some y) {K : Int → zH → Prop}
    (q : ∀ h1, frP (fun b k => (b = 127 ∧ k = 54) ∨ b = 160 ∨ b = 161) h h1 → mTg h1 rn rt rs (tst1 (tEq rn rt rs) G c (x, y)).1 → K (tst1 (tEq rn rt rs) G c (x, y)).2 h1) : zC1 217 [vR 127 111, vI c, vI (40 * x + k1)] h K := by
  have hx8 : 0 ≤ x ∧ x < 8 := ⟨hx.1, by omega⟩
  have fx := o.tr hx8 hn
  have pt := u.pt o hx8 hn
  have l40 := tRw_l (s := sP rn rt rs x)
  have lk : k1 < (tRw (sP rn rt rs x)).length := lt_q hy
  have ry := (ly x hx.1 hx.2 hn).2 k1 y hy
  have ym : y ∈ tRw (sP rn rt rs x) := List.mem_of_getElem? hy
  have key : ∀ (f j : Nat), j + f = G.length → (∀ i : Int, i < j → ¬ mtc (tEq rn rt rs) G c (x, y) i) → zK 217 2 [vR 127 111, vI c, vI (40 * x + k1), vI (j : Nat)] [] h (fun r h1 => ∃ v : Int, r = some (Sum.inl v) ∧ K v h1) := by
    intro f
    induction f with
    | zero =>
      intro j hj no
      have e : tst1 (tEq rn rt rs) G c (x, y) = (G ++ [(c, x, y)], (G.length : Int)) := by
        unfold tst1
        rw [if_pos (fC_n (fun i z => no i (by have := (mtc_lt z).2; omega) z))]
      rw [e] at q
      refine k217_2 c _ j h _ ?_
      rw [t.1]
      refine ⟨fun _ => ⟨by omega, by omega, fun h5 e5 => ?_⟩, fun d => absurd (by omega) d⟩
      have z5 : gI h5 127 54 = G.length := by rw [e5, gS, if_neg (by omega)]; exact t.1
      rw [z5]
      refine ⟨by omega, by omega, fun h6 e6 => ?_⟩
      have z6 : gI h6 127 54 = G.length := by rw [e6, gS, if_neg (by omega)]; exact z5
      rw [z6]
      refine ⟨by unfold inR; omega, fun h7 e7 => ?_⟩
      have z7 : gI h7 127 54 = G.length + 1 := by rw [e7, gS1]
      rw [z7, show (G.length : Int) + 1 - 1 = G.length by omega]
      refine ⟨by unfold inR; omega, zq1 (q h7 (by rw [e7, e6, e5]; exact ((frP.rf.st (by omega)).st (by omega)).st (by omega)) ⟨by rw [z7, List.length_append]; rfl, fun i n ei => ?_⟩)⟩
      rcases snoc_q.1 ei with z | ⟨z1, z2⟩
      · have lt := lt_q z
        rw [e7, gS, if_neg (by omega), gS, if_neg (by omega), e6, gS, if_neg (by omega), gS, if_neg (by omega), e5, gS, if_neg (by omega), gS, if_neg (by omega)]
        exact t.2 i n z
      · subst z1; subst z2
        refine ⟨by rw [e7, gS, if_neg (by omega), e6, gS1], k1, by omega, ?_, hy⟩
        rw [e7, gS, if_neg (by omega), e6, gS, if_neg (by omega), e5, gS1]
    | succ f ih =>
      intro j hj no
      have hl : j < G.length := by omega
      have en : G[j]? = some (G[j]'hl) := List.getElem?_eq_getElem hl
      obtain ⟨t1, kj, t2, t3, t4⟩ := t.2 j _ en
      have gj := gr j _ en
      have zj := gz j _ en
      have fj := o.tr gj.1 gj.2.1
      have pj := u.pt o gj.1 gj.2.1
      have rj := (ly _ gj.1.1 zj gj.2.1).2 kj _ t4
      have nxt : ¬ mtc (tEq rn rt rs) G c (x, y) j → ∀ i : Int, i < ((j + 1 : Nat) : Int) → ¬ mtc (tEq rn rt rs) G c (x, y) i := fun z i hi => by
        by_cases d : i = j
        · rw [d]; exact z
        · exact no i (by omega)
      refine k217_2 c _ j h _ ?_
      rw [t.1, t1, t3]
      refine ⟨fun d => absurd d (by omega), fun _ => ⟨by omega, by omega, fun d => ⟨by unfold inR; omega, ih (j + 1) (by omega) (nxt (fun z => ?_))⟩, fun d => ⟨by omega, by omega, s216 pj fj.2.2.1.2.1 fj.1 fj.2.1 pt fx.2.2.1.2.1 fx.1 fx.2.1 (fj.2.2.2 _ gj.2.2) (fx.2.2.2 _ ym) t2 (by omega) rj.1 rj.2 ry.1 ⟨fun z => ⟨by unfold inR; omega, ih (j + 1) (by omega) (nxt (fun z2 => ?_))⟩, fun z => zq1 ?_⟩⟩⟩⟩
      · obtain ⟨n2, _, m1, m2, _⟩ := z
        rw [Int.toNat_natCast, en] at m1
        injection m1 with m1
        rw [← m1] at m2
        exact d m2
      · rw [b2i_eq0] at z
        obtain ⟨n2, _, m1, m2, m3⟩ := z2
        rw [Int.toNat_natCast, en] at m1
        injection m1 with m1
        rw [← m1] at m3
        exact z m3
      · rw [b2i_ne0] at z
        have e : fC (tEq rn rt rs) G c (x, y) = j := fC_u (fun n n2 => tEq_s n n2) g ⟨_, by omega, by rw [Int.toNat_natCast]; exact en, Classical.not_not.1 d, z⟩
        have e2 : tst1 (tEq rn rt rs) G c (x, y) = (G, (j : Int)) := by unfold tst1; rw [e, if_neg (by omega)]
        rw [e2] at q
        exact q h frP.rf t
  exact cI (k217_0 c _ h _ (key G.length 0 (by omega) (fun i hi z => by have := (mtc_lt z).1; omega)))
end MG
