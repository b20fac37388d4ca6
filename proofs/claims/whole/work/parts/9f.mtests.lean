/-! The model: all tests are laid; tests. -/
def mTs (h : zH) (rn : Int → Int) (rt : Int → Int → Int) (rs : Int → pS) : Prop := mLy h rn rt rs 8 ∧ mTg h rn rt rs (gTs rn rt rs) ∧ gI h 127 55 = nTs rn rt rs 8 0 0
theorem tst1_z {E : tsl → tsl → Prop} {G : List tnd} {c Z : Int} {a : tsl} (k : ∀ (j : Nat) (n : tnd), G[j]? = some n → n.2.1 < Z) (ha : a.1 < Z) : ∀ (j : Nat) (n : tnd), (tst1 E G c a).1[j]? = some n → n.2.1 < Z := by
  unfold tst1
  by_cases d : fC E G c a = -1
  · rw [if_pos d]
    intro j n e
    rcases snoc_q.1 e with q | ⟨q1, q2⟩
    · exact k j n q
    · subst q2; exact ha
  · rw [if_neg d]; exact k
section MH
variable {h : zH} {rn : Int → Int} {rt : Int → Int → Int} {rs : Int → pS}
theorem mRw.fz {h1 : zH} {x z : Int} {s : pS} {R : List tst} (r : mRw h x s R) (hR : R.length ≤ 40) (f : frP (mtR z) h h1) (hx : 0 ≤ x ∧ x < z) : mRw h1 x s R := by
  refine ⟨by rw [f.1 _ _ (by unfold mtR; omega)]; exact r.1, fun k y hy => ?_⟩
  have lt := lt_q hy
  have q := r.2 k y hy
  exact ⟨q.1.fr q.2 f (fun b _ _ => by unfold mtR; omega) (fun b j _ _ _ => by unfold mtR; omega), q.2⟩
theorem s218 (o : slO rn rt rs) (u : mRu h rn rt rs) {K : zH → Prop} (k : ∀ h1, frP mtTs h h1 → mTs h1 rn rt rs → K h1) : zC0 218 [vR 127 111] h K := by
  have key : ∀ (f : Nat) (z q : Int) (G : List tnd) (h1 : zH) (u2 u3 : zV), z + f = 8 → 0 ≤ z → frP mtTs h h1 → mLy h1 rn rt rs z → mTg h1 rn rt rs G → (∀ (j : Nat) (n : tnd), G[j]? = some n → n.2.1 < z) → tGk (tEq rn rt rs) G → tGr rn (rwS rn rt rs) G → (G.length : Int) ≤ 40 * z → trS (tEq rn rt rs) rn (rwS rn rt rs) f z G = gTs rn rt rs → gI h1 127 55 = q → 0 ≤ q → q ≤ 40 * z → nTs rn rt rs f z q = nTs rn rt rs 8 0 0 → zK 218 12 [vR 127 111, vI z, u2, u3] [] h1 (fun r h1 => r = none ∧ K h1) := by
    intro f
    induction f with
    | zero =>
      intro z q G h1 u2 u3 hz z0 f1 ly t gz g gr lG eG eq q0 q1 en
      rw [trS] at eG
      rw [nTs] at en
      subst eG
      have z8 : z = 8 := by omega
      rw [z8] at ly
      exact k218_12 z u2 u3 h1 _ ⟨fun _ => zq0 (k h1 f1 ⟨ly, t, by rw [eq, en]⟩), fun d => absurd (by omega) d⟩
    | succ f ih =>
      intro z q G h1 u2 u3 hz z0 f1 ly t gz g gr lG eG eq q0 q1 en
      rw [trS] at eG
      rw [nTs] at en
      have u1 : mRu h1 rn rt rs := u.fr o f1 (fun k _ => by unfold mtTs; omega) (fun k => by unfold mtTs; omega)
      refine k218_12 z u2 u3 h1 _ ⟨fun d => absurd d (by omega), fun _ => s143 o u1 ⟨fun c => ⟨by unfold inR; omega, ?_⟩, fun c => ?_⟩⟩
      · rw [b2i_eq0] at c
        have rz : rn z = 0 := by
          apply Classical.byContradiction; intro d
          exact c ⟨⟨z0, by omega⟩, d⟩
        rw [if_pos rz] at eG en
        refine ih (z + 1) q G h1 u2 u3 (by omega) (by omega) f1 (fun x x0 x1 hn => ?_) t (fun j n e => by have := gz j n e; omega) g gr (by omega) eG eq q0 (by omega) en
        exact ly x x0 (by apply Classical.byContradiction; intro d; exact hn (by rw [show x = z by omega]; exact rz)) hn
      · rw [b2i_ne0] at c
        have rz := c.2
        rw [if_neg rz] at eG en
        have fz := o.tr c.1 rz
        have pz := u1.pt o c.1 rz
        have l40 := tRw_l (s := sP rn rt rs z)
        have tc : gI h1 140 (2 * z) = sP rn rt rs z 0 0 3 := by
          rw [((u1 z c.1.1 c.1.2).2 rz).2.1.1]
          exact (o.gd c.1 rz).1.2.2.2.2.2.2.2.2.2.2.1
        refine s210 pz fz.2.2.1.2.1 tc fz.1 fz.2.1 (fun h2 f2 r2 => ?_)
        have F2 : frP mtTs h h2 := f1.tr (f2.mo (fun b k q => by unfold mtR at q; unfold mtTs; omega))
        have e55 : gI h2 127 55 = q := by rw [f2.1 _ _ (by unfold mtR; omega)]; exact eq
        rw [e55, r2.1]
        refine ⟨c.1.1, c.1.2, by unfold inR; omega, fun h3 e3 => ?_⟩
        have f3 : frP (fun b k => b = 127 ∧ k = 55) h2 h3 := by rw [e3]; exact frP.rf.st ⟨rfl, rfl⟩
        have F3 : frP mtTs h h3 := F2.tr (f3.mo (fun b k q => by unfold mtTs; omega))
        have ly3 : mLy h3 rn rt rs (z + 1) := by
          intro x x0 x1 hn
          refine mRw.fr (h := h2) ?_ f3 (by omega) (fun b k _ _ => by omega)
          by_cases d : x = z
          · rw [d]; exact r2
          · exact (ly x x0 (by omega) hn).fz tRw_l f2 ⟨x0, by omega⟩
        have t3 : mTg h3 rn rt rs G := (t.fr f2 (by unfold mtR; omega) (fun k => by unfold mtR; omega)).fr f3 (by omega) (fun k => by omega)
        have v3 : gI h3 127 55 = q + (tRw (sP rn rt rs z)).length := by rw [e3, gS1]
        -- the row
        have row : ∀ (f2 j : Nat) (G2 : List tnd) (c2 : Int) (h4 : zH), j + f2 = (tRw (sP rn rt rs z)).length → frP (fun b k => (b = 127 ∧ k = 54) ∨ b = 160 ∨ b = 161) h3 h4 → mTg h4 rn rt rs G2 → (∀ (j : Nat) (n : tnd), G2[j]? = some n → n.2.1 < z + 1) → tGk (tEq rn rt rs) G2 → tGr rn (rwS rn rt rs) G2 → G2.length ≤ G.length + j → (c2 = -1 ∨ (0 ≤ c2 ∧ c2 < G2.length)) → (trw (tEq rn rt rs) z G2 c2 ((tRw (sP rn rt rs z)).drop j)).1 = (trw (tEq rn rt rs) z G (-1) (tRw (sP rn rt rs z))).1 → zK 218 50 [vR 127 111, vI z, vI c2, vI (j : Nat)] [] h4 (fun r h1 => r = none ∧ K h1) := by
          intro f2
          induction f2 with
          | zero =>
            intro j G2 c2 h4 hj f4 t4 gz4 g4 gr4 l4 hc e
            rw [List.drop_eq_nil_of_le (by omega), trw] at e
            have ly4 : mLy h4 rn rt rs (z + 1) := ly3.fr f4 (fun k => by omega) (fun b k _ _ => by omega)
            refine k218_50 z c2 j h4 _ ?_
            rw [f4.1 150 _ (by omega), f3.1 150 _ (by omega), r2.1]
            refine ⟨c.1.1, c.1.2, fun _ => ⟨by unfold inR; omega, ih (z + 1) (q + (tRw (sP rn rt rs z)).length) G2 h4 _ _ (by omega) (by omega) (F3.tr (f4.mo (fun b k q => by unfold mtTs; omega))) ly4 t4 gz4 g4 gr4 (by omega) ?_ (by rw [f4.1 _ _ (by omega)]; exact v3) (by omega) (by omega) en⟩, fun d => absurd (by omega) d⟩
            have e : G2 = (trw (tEq rn rt rs) z G (-1) (tRw (sP rn rt rs z))).1 := e
            rw [e]; exact eG
          | succ f2 ih2 =>
            intro j G2 c2 h4 hj f4 t4 gz4 g4 gr4 l4 hc e
            have hl : j < (tRw (sP rn rt rs z)).length := by omega
            have ey : (tRw (sP rn rt rs z))[j]? = some ((tRw (sP rn rt rs z))[j]'hl) := List.getElem?_eq_getElem hl
            have ym : (tRw (sP rn rt rs z))[j]'hl ∈ tRw (sP rn rt rs z) := List.getElem_mem hl
            rw [List.drop_eq_getElem_cons hl, trw] at e
            have ly4 : mLy h4 rn rt rs (z + 1) := ly3.fr f4 (fun k => by omega) (fun b k _ _ => by omega)
            have F4 : frP mtTs h h4 := F3.tr (f4.mo (fun b k q => by unfold mtTs; omega))
            have u4 : mRu h4 rn rt rs := u.fr o F4 (fun k _ => by unfold mtTs; omega) (fun k => by unfold mtTs; omega)
            have g5 := tst1_g (a := (z, (tRw (sP rn rt rs z))[j]'hl)) g4 hc
            have gr5 := tst1_r (E := tEq rn rt rs) (c := c2) (a := (z, (tRw (sP rn rt rs z))[j]'hl)) gr4 ⟨c.1, rz, ym⟩
            have gz5 := tst1_z (E := tEq rn rt rs) (c := c2) (a := (z, (tRw (sP rn rt rs z))[j]'hl)) gz4 (by show z < z + 1; omega)
            refine k218_50 z c2 j h4 _ ?_
            rw [f4.1 150 _ (by omega), f3.1 150 _ (by omega), r2.1]
            refine ⟨c.1.1, c.1.2, fun d => absurd d (by omega), fun _ => ⟨by unfold inR; omega, by unfold inR; omega, s217 o u4 ly4 t4 gz4 g4 gr4 (by omega) ⟨z0, by omega⟩ (by omega) rz ey (fun h5 f5 t5 => ⟨by unfold inR; omega, ih2 (j + 1) _ _ h5 (by omega) (f4.tr f5) t5 gz5 g5.1 gr5 (by omega) g5.2.1 e⟩)⟩⟩
        exact row _ 0 G (-1) h3 (Nat.zero_add _) frP.rf t3 (fun j n e => by have := gz j n e; omega) g gr (by omega) (Or.inl rfl) rfl
  refine cV (k218_0 h _ (fun h7 e7 h8 e8 => ?_))
  refine key 8 0 0 [] h8 _ _ (by omega) (by omega) (by rw [e8, e7]; exact (frP.rf.st (by unfold mtTs; omega)).st (by unfold mtTs; omega)) (fun x x0 x1 => by omega) ⟨by rw [e8, gS, if_neg (by omega), e7, gS1]; rfl, fun k n e => (by cases e)⟩ (fun k n e => (by cases e)) ⟨fun i j n n2 _ e => (by cases e), fun j n e => (by cases e)⟩ (fun j n e => (by cases e)) (by show (0 : Int) ≤ _; omega) rfl (by rw [e8, gS1]) (by omega) (by omega) rfl
theorem s219 {q : Int} (t : mTs h rn rt rs) {K : Int → zH → Prop} (k : K (aTst rn rt rs q) (sI h 127 0 0)) : zC1 219 [vR 127 111, vI q] h K := by
  unfold aTst at k
  refine cI (k219_0 q h _ (fun h2 e2 => ?_))
  have e54 : gI h2 127 54 = (gTs rn rt rs).length := by rw [e2, gS, if_neg (by omega)]; exact t.2.1.1
  have e55 : gI h2 127 55 = nTs rn rt rs 8 0 0 := by rw [e2, gS, if_neg (by omega)]; exact t.2.2
  rw [e54, e55]
  rw [← e2] at k
  refine ⟨fun c => ⟨fun d => zq1 ?_, fun d => zq1 ?_⟩, fun c => zq1 ?_⟩
  · rwa [if_neg c, if_neg d] at k
  · rwa [if_neg c, if_pos (Classical.not_not.1 d)] at k
  · rwa [if_pos (Classical.not_not.1 c)] at k
end MH
