/-! What letters hold, as texts; comments that are carried. -/
theorem adv_ad (T : pT) : ∀ (j i : Nat) (s : Int), adv T (j + i) s = adv T i (adv T j s)
  | 0, i, s => by rw [Nat.zero_add]; rfl
  | j + 1, i, s => by rw [show j + 1 + i = (j + i) + 1 by omega, adv, adv, adv_ad T j i]
section HO
variable {t w : Int → Int} {n nd nc m bs v : Int} {T C : pT} {s : pS}
/-- the last node that an item took -/
def fLs (T : pT) (s : pS) (bs : Int) (st : fZ) (j : Int) : Prop := ∀ y, bs ≤ y → y < j → (s 1 y 0 = 1 → st 1 y = st 0 y) ∧ (s 1 y 0 = 5 → st 1 y = if st 2 y = 0 then -1 else adv T (st 2 y - 1).toNat (st 0 y))
theorem Wm_l (hb : ¬ s 1 bs 0 = 5) : ∀ (f : Nat) (j : Int) (st : fZ), bs + s 1 bs 9 - j = f → bs ≤ j → fLs T s bs st j → ∀ e, e ∈ Wm t w T s bs v f j st → fLs T s bs e (bs + s 1 bs 9) := by
  intro f
  induction f with
  | zero =>
    intro j st ef j0 vd e he
    have he : e ∈ [st] := he
    rw [List.mem_singleton] at he
    subst he
    rw [show bs + s 1 bs 9 = j by omega]
    exact vd
  | succ f ih =>
    intro j st ef j0 vd e he
    have go : ∀ st', fLs T s bs st' (j + 1) → e ∈ Nm t w T s bs v f j st' → fLs T s bs e (bs + s 1 bs 9) := by
      intro st' vd' hm
      unfold Nm at hm
      split at hm
      · exact ih (j + 1) st' (by omega) (by omega) vd' e hm
      · cases hm
    have gO : ∀ d : Nat, (s 1 j 0 = 1 → d = 0) → ¬ s 1 j 0 = 5 → fLs T s bs (fO T st j (fA s bs v st j) (fR T s bs st j) d) (j + 1) := by
      intro d hd h5 y y0 y1
      unfold fO
      by_cases c : y = j
      · subst c
        rw [fU_0, fU_1, fU_2]
        exact ⟨fun q => by rw [hd q]; simp, fun q => absurd q h5⟩
      · rw [fU_o c, fU_o c, fU_o c]; exact vd y y0 (by omega)
    have gW : ∀ c : Nat, s 1 j 0 = 5 → fLs T s bs (fW T st j (fA s bs v st j) (fR T s bs st j) c) (j + 1) := by
      intro d h5 y y0 y1
      unfold fW
      by_cases c : y = j
      · subst c
        rw [fU_0, fU_1, fU_2]
        refine ⟨fun q => by omega, fun q => ?_⟩
        by_cases z : d = 0
        · rw [if_pos z, if_pos (by omega)]
        · rw [if_neg z, if_neg (by omega), show ((d : Int) - 1).toNat = d - 1 by omega]
      · rw [fU_o c, fU_o c, fU_o c]; exact vd y y0 (by omega)
    rw [Wm_s] at he
    by_cases c5 : s 1 j 0 = 5
    · rw [if_pos c5] at he
      obtain ⟨c, hc, hm⟩ := List.mem_flatMap.1 he
      exact go _ (gW c c5) hm
    · rw [if_neg c5] at he
      by_cases cr : fR T s bs st j < 1
      · rw [if_pos cr] at he; cases he
      · rw [if_neg cr] at he
        by_cases c2 : s 1 j 0 = 2
        · rw [if_pos c2] at he
          obtain ⟨c, hc, hm⟩ := List.mem_flatMap.1 he
          exact go _ (gO c (fun q => by omega) c5) hm
        · rw [if_neg c2] at he
          split at he
          · exact go _ (gO 0 (fun _ => rfl) c5) he
          · cases he
/-- where the text of a letter begins, ends -/
noncomputable def hBg (T : pT) (s : pS) (e : fZ) (l : Int) : Int := if hF s 0 l (s 1 0 9) = -1 ∨ e 2 (hF s 0 l (s 1 0 9)) ≤ 0 ∨ l < 0 then 0 else T (e 0 (hF s 0 l (s 1 0 9))) 4
noncomputable def hEn (T : pT) (s : pS) (e : fZ) (l : Int) : Int := if hF s 0 l (s 1 0 9) = -1 ∨ e 2 (hF s 0 l (s 1 0 9)) ≤ 0 ∨ l < 0 then 0 else T (e 1 (hF s 0 l (s 1 0 9))) 5
theorem held_r (g : sF t n nd nc T C) (x : rEn w m 0 0 s) (b : bsI s 0 0) (hv : 0 ≤ v ∧ v < nd) {e : fZ} {L : List fZ} (hw : wAl t w T s 0 v = e :: L) {l : Int} (hl : 0 ≤ l) (c1 : ¬ hF s 0 l (s 1 0 9) = -1) (c2 : ¬ e 2 (hF s 0 l (s 1 0 9)) ≤ 0) :
    (0 ≤ hF s 0 l (s 1 0 9) ∧ hF s 0 l (s 1 0 9) < s 1 0 9) ∧ e 2 (hF s 0 l (s 1 0 9)) ≤ 12 ∧ (∀ k : Nat, (k : Int) < e 2 (hF s 0 l (s 1 0 9)) → 0 ≤ adv T k (e 0 (hF s 0 l (s 1 0 9))) ∧ adv T k (e 0 (hF s 0 l (s 1 0 9))) < nd) ∧ e 1 (hF s 0 l (s 1 0 9)) = adv T (e 2 (hF s 0 l (s 1 0 9)) - 1).toNat (e 0 (hF s 0 l (s 1 0 9))) := by
  have N := x.N
  have rt := x.rt
  have vd := wAl_v g x b hv hw
  have ls : fLs T s 0 e (0 + s 1 0 9) := Wm_l (t := t) (w := w) (v := v) b.2.2 (s 1 0 9).toNat 0 (fun _ _ => 0) (by have := x.sp (j := 0) (by omega) (by omega); omega) (by omega) (fun y y0 y1 => by omega) e (by show e ∈ wAl t w T s 0 v; rw [hw]; simp)
  rw [Int.zero_add] at vd ls
  rcases hF_rg (s := s) (bs := 0) (l := l) (show 0 ≤ s 1 0 9 by omega) with q | q
  · exact absurd q c1
  · generalize hF s 0 l (s 1 0 9) = y at *
    have vy := vd y q.1 q.2.1
    have ly := ls y q.1 q.2.1
    have ct := x.ct (j := y) q.1 (by omega)
    have o15 : s 1 y 0 = 1 ∨ s 1 y 0 = 5 := by omega
    clear ct
    rcases o15 with o1 | o5
    · have a := vy.1 (by omega)
      have l1 := ly.1 o1
      refine ⟨⟨q.1, q.2.1⟩, by omega, fun k hk => ?_, ?_⟩
      · rw [show k = 0 by omega]; exact ⟨a.1, a.2.1⟩
      · rw [l1, a.2.2.1]; rfl
    · have ro := x.ro q.1 (by omega) o5
      have pa := x.par (j := y) ro.1 (by omega)
      have p := vy.2 ro.1 ro.2
      have pv := (vd (s 1 y 3) pa.1 (by omega)).1 (by omega)
      have l5 := ly.2 o5
      rw [if_neg (by omega)] at l5
      have mn := g.mn pv.1 pv.2.1
      have e0 := p.2.2.2.2 o5
      refine ⟨⟨q.1, q.2.1⟩, by omega, fun k hk => ?_, l5⟩
      rw [e0, ← adv_ad]
      have := g.pt pv.1 pv.2.1 (k := (T (e 0 (s 1 y 3)) 3 - e 4 y - e 2 y).toNat + k) (by omega)
      exact ⟨by omega, this.2.1⟩
theorem adv_mo (g : sF t n nd nc T C) : ∀ (k : Nat) (a : Int), (∀ i : Nat, i < k → 0 ≤ adv T i a ∧ adv T i a < nd) → a ≤ adv T k a
  | 0, a, _ => Int.le_refl _
  | k + 1, a, h => by
    have h0 := h 0 (by omega)
    have sz := g.sz (i := a) h0.1 h0.2
    have := adv_mo g k (a + T a 6) (fun i hi => h (i + 1) (by omega))
    rw [adv]; omega
theorem hl_ok (g : sF t n nd nc T C) (x : rEn w m 0 0 s) (b : bsI s 0 0) (hv : 0 ≤ v ∧ v < nd) {e : fZ} {L : List fZ} (hw : wAl t w T s 0 v = e :: L) : ∀ l, ((hBg T s e l = 0 ∧ hEn T s e l = 0) ∨ (0 ≤ hBg T s e l ∧ hBg T s e l < hEn T s e l ∧ hEn T s e l ≤ n ∧ ∀ m, 0 ≤ m → m < nc → C m 0 < hEn T s e l → C m 0 + C m 1 ≤ hEn T s e l)) := by
  intro l
  unfold hBg hEn
  by_cases c : hF s 0 l (s 1 0 9) = -1 ∨ e 2 (hF s 0 l (s 1 0 9)) ≤ 0 ∨ l < 0
  · rw [if_pos c, if_pos c]; exact Or.inl ⟨rfl, rfl⟩
  · rw [if_neg c, if_neg c]
    have hl : 0 ≤ l := by apply Classical.byContradiction; intro d; exact c (Or.inr (Or.inr (by omega)))
    have r := held_r g x b hv hw hl (fun d => c (Or.inl d)) (fun d => c (Or.inr (Or.inl d)))
    have c2 : ¬ e 2 (hF s 0 l (s 1 0 9)) ≤ 0 := fun d => c (Or.inr (Or.inl d))
    clear c
    generalize hF s 0 l (s 1 0 9) = y at *
    have r0 := r.2.2.1 0 (by omega)
    have r1 := r.2.2.1 (e 2 y - 1).toNat (by omega)
    have mo := adv_mo g (e 2 y - 1).toNat (e 0 y) (fun i hi => r.2.2.1 i (by omega))
    rw [← r.2.2.2] at r1 mo
    have r0 : 0 ≤ e 0 y ∧ e 0 y < nd := r0
    have b0 := g.be r0.1 r0.2
    have b1 := g.be r1.1 r1.2
    refine Or.inr ⟨b0.1, ?_, b1.2.2, fun m m0 m1 h => g.ce m0 m1 r1.1 r1.2 h⟩
    by_cases d : e 0 y = e 1 y
    · rw [d] at b0 ⊢; omega
    · have := (g.pw.2.1.2 (e 0 y) (e 1 y) r0.1 (by omega) r1.2).1
      omega
end HO
/-- comments that are carried -/
noncomputable def cmL (t : Int → Int) (C : pT) (P : Int → Prop) : Nat → Int → List Int
  | 0, _ => []
  | f + 1, k => (if b2i (P k) = 1 then rowS t (C k 1).toNat (C k 0) ++ [32] else []) ++ cmL t C P f (k + 1)
def hdC (C : pT) (s : pS) (B E : Int → Int) (k : Int) : Prop := ∃ j, 0 ≤ j ∧ j < s 0 0 7 ∧ isLt s j ∧ B (s 7 j 1) ≤ C k 0 ∧ C k 0 < E (s 7 j 1)
def crP (T C : pT) (s : pS) (B E : Int → Int) (v k : Int) : Prop := (T v 4 ≤ C k 0 ∧ C k 0 < T v 5) ∧ ¬ hdC C s B E k
theorem cmL_y {t : Int → Int} {C : pT} {P : Int → Prop} {f : Nat} {k : Int} (h : P k) : cmL t C P (f + 1) k = rowS t (C k 1).toNat (C k 0) ++ [32] ++ cmL t C P f (k + 1) := by rw [cmL, b2i_pos h, if_pos rfl]
theorem cmL_n {t : Int → Int} {C : pT} {P : Int → Prop} {f : Nat} {k : Int} (h : ¬ P k) : cmL t C P (f + 1) k = cmL t C P f (k + 1) := by rw [cmL, b2i_neg h, if_neg (by omega)]; rfl
theorem cmL_ap {t : Int → Int} {C : pT} {P : Int → Prop} : ∀ (j f : Nat) (k : Int), cmL t C P (j + f) k = cmL t C P j k ++ cmL t C P f (k + j)
  | 0, f, k => by rw [Nat.zero_add, show k + ((0 : Nat) : Int) = k by omega]; rfl
  | j + 1, f, k => by
    rw [show j + 1 + f = (j + f) + 1 by omega]
    have r := cmL_ap (t := t) (C := C) (P := P) j f (k + 1)
    rw [show k + 1 + (j : Int) = k + ((j + 1 : Nat) : Int) by omega] at r
    by_cases c : P k
    · rw [cmL_y c, cmL_y c, r, List.append_assoc]
      simp only [List.append_assoc]
    · rw [cmL_n c, cmL_n c, r]
theorem cnt_ap {P : Int → Prop} : ∀ (j f : Nat) (k : Int), cnt P (j + f) k = cnt P j k + cnt P f (k + j)
  | 0, f, k => by rw [Nat.zero_add, show k + ((0 : Nat) : Int) = k by omega, cnt]; omega
  | j + 1, f, k => by
    rw [show j + 1 + f = (j + f) + 1 by omega, cnt, cnt, cnt_ap j f (k + 1), show k + 1 + (j : Int) = k + ((j + 1 : Nat) : Int) by omega]
    omega
theorem cmL_l {t : Int → Int} {n nd nc : Int} {T C : pT} (g : sF t n nd nc T C) {P : Int → Prop} : ∀ (f : Nat) (k : Int), nc - k = f → 0 ≤ k → ((cmL t C P f k).length : Int) ≤ (if k < nc then n - C k 0 else 0) + f := by
  intro f
  induction f with
  | zero => intro k hk k0; rw [if_neg (by omega), cmL]; simp
  | succ f ih =>
    intro k hk k0
    have r := ih (k + 1) (by omega) (by omega)
    have c := g.cm k0 (show k < nc by omega)
    rw [if_pos (by omega)]
    have le : (if k + 1 < nc then n - C (k + 1) 0 else 0) ≤ n - C k 0 - C k 1 := by
      split
      · have := g.co.2.1.2 k k0 (by assumption); omega
      · omega
    by_cases p : P k
    · rw [cmL_y p, List.length_append, List.length_append, rowS_l]
      have : ([32] : List Int).length = 1 := rfl
      rw [this]
      omega
    · rw [cmL_n p]; omega
theorem cmL_450 {t : Int → Int} {n nd nc : Int} {T C : pT} (g : sF t n nd nc T C) {P : Int → Prop} (j : Nat) (hj : (j : Int) ≤ nc) : (cmL t C P j 0).length ≤ 450 := by
  have hc := g.hc
  have hn := g.hn
  have a := cmL_l g (P := P) nc.toNat 0 (by omega) (by omega)
  rw [show nc.toNat = j + (nc.toNat - j) by omega, cmL_ap, List.length_append] at a
  by_cases c : 0 < nc
  · have := g.cm (m := 0) (by omega) c
    rw [if_pos c] at a
    omega
  · rw [if_neg c] at a; omega
/-- every token that isn't a closing is an item's own -/
theorem tok_it {w : Int → Int} {m b0 : Int} {s : pS} (x : rEn w m 1 b0 s) : ∀ (f : Nat) (i k : Int), s 0 0 1 - i = f → b0 ≤ i → i < s 0 0 1 → s 4 i 0 ≤ k → k < s 0 0 7 → ¬ s 7 k 0 = 7 → ∃ j, b0 ≤ j ∧ j < s 0 0 1 ∧ s 4 j 0 = k := by
  intro f
  induction f with
  | zero => intro i k hi i0 i1; omega
  | succ f ih =>
    intro i k hi i0 i1 k0 k1 k7
    have gp := x.gap i0 i1
    by_cases c : k = s 4 i 0
    · exact ⟨i, i0, i1, c.symm⟩
    · have ge : psT s i ≤ k := by
        apply Classical.byContradiction; intro d
        exact k7 (gp.2 k (by omega) (by omega))
      unfold psT at ge
      by_cases d : i + 1 < s 0 0 1
      · rw [if_pos d] at ge
        exact ih (i + 1) k (by omega) (by omega) d ge k1 k7
      · rw [if_neg d] at ge; omega
