/-! The program: tests hung together. -/
def abv (G : List tnd) (k : Nat) : Int := match G[k]? with
  | some n => n.1
  | none => -2
/-- the last of the first n that lies under c -/
def lc (G : List tnd) (c : Int) : Nat → Int
  | 0 => -1
  | k + 1 => if abv G k = c then (k : Int) else lc G c k
def xTg (h : zH) (rf : Int → Nat) (G : List tnd) : Prop := gI h 63 5 = G.length ∧ gI h 63 6 = lc G (-1) G.length ∧ ∀ (k : Nat) (n : tnd), G[k]? = some n → gI h 68 k = n.2.2.1 ∧ gR h 69 k = rf n.2.1 ∧ gI h 70 k = n.2.2.2.1 ∧ gI h 71 k = n.2.2.2.2 ∧ gI h 72 k = n.1 ∧ gI h 74 k = lc G n.1 k ∧ gI h 73 k = lc G k G.length
def teA (b : Nat) (k : Int) : Prop := (b = 63 ∧ (k = 0 ∨ k = 5 ∨ k = 6)) ∨ (64 ≤ b ∧ b ≤ 74)
def teR (b : Nat) (_ : Int) : Prop := b = 69
section LC
variable {G : List tnd} {c : Int}
theorem abv_s {k : Nat} {n : tnd} (h : G[k]? = some n) : abv G k = n.1 := by unfold abv; rw [h]
theorem abv_l {k : Nat} {n : tnd} (h : k < G.length) : abv (G ++ [n]) k = abv G k := by unfold abv; rw [List.getElem?_append_left h]
theorem abv_e {n : tnd} : abv (G ++ [n]) G.length = n.1 := abv_s (snoc_q.2 (Or.inr ⟨rfl, rfl⟩))
theorem lc_rg : ∀ (k : Nat), (lc G c k = -1 ∧ ∀ i : Nat, i < k → ¬ abv G i = c) ∨ ∃ j : Nat, j < k ∧ lc G c k = j ∧ abv G j = c ∧ ∀ i : Nat, j < i → i < k → ¬ abv G i = c
  | 0 => Or.inl ⟨rfl, fun i hi => by omega⟩
  | k + 1 => by
    rw [lc]
    by_cases d : abv G k = c
    · rw [if_pos d]
      exact Or.inr ⟨k, by omega, rfl, d, fun i h1 h2 => by omega⟩
    · rw [if_neg d]
      rcases lc_rg k with q | ⟨j, j1, j2, j3, j4⟩
      · refine Or.inl ⟨q.1, fun i hi => ?_⟩
        by_cases z : i = k
        · rw [z]; exact d
        · exact q.2 i (by omega)
      · refine Or.inr ⟨j, by omega, j2, j3, fun i h1 h2 => ?_⟩
        by_cases z : i = k
        · rw [z]; exact d
        · exact j4 i h1 (by omega)
theorem lc_l {n : tnd} : ∀ (k : Nat), k ≤ G.length → lc (G ++ [n]) c k = lc G c k
  | 0, _ => rfl
  | k + 1, h => by rw [lc, lc, abv_l (by omega), lc_l k (by omega)]
theorem lc_e {n : tnd} : lc (G ++ [n]) c (G.length + 1) = if n.1 = c then (G.length : Int) else lc G c G.length := by
  rw [lc, abv_e, lc_l _ (Nat.le_refl _)]
theorem lc_no {k : Nat} (h : ∀ i : Nat, i < k → ¬ abv G i = c) : lc G c k = -1 := by
  rcases lc_rg (G := G) (c := c) k with q | ⟨j, j1, j2, j3, j4⟩
  · exact q.1
  · exact absurd j3 (h j j1)
end LC
section XG
variable {h : zH} {rn : Int → Int} {rt : Int → Int → Int} {rs : Int → pS} {G : List tnd} {c x : Int}
theorem slO.tr (o : slO rn rt rs) (hx : 0 ≤ x ∧ x < 8) (hn : ¬ rn x = 0) : rEn (rt x) (rn x) 0 0 (sP rn rt rs x) ∧ rP8 (sP rn rt rs x) ∧ tOk (rt x) (rn x) ∧ ∀ y, y ∈ tRw (sP rn rt rs x) → tRg (sP rn rt rs x) y := by
  have g := o.gd hx hn
  have en := g.1.en.1
  have p8 := g.1.p8 g.2 (o.rd hx hn)
  refine ⟨en, p8, g.2, ?_⟩
  have N := en.N
  exact (tS_g en p8 20 0 (fun _ => -1) [] (by omega) ⟨by omega, fun _ p p0 p1 => by omega, fun l hl => absurd rfl hl⟩).rg
theorem xTg.fx {P R : Nat → Int → Prop} {h1 : zH} {rf : Int → Nat} (t : xTg h rf G) (f : frX P R h h1) (d : ¬ P 63 5 ∧ ¬ P 63 6) (d2 : ∀ b k, 68 ≤ b → b ≤ 74 → ¬ P b k) (d3 : ∀ k, ¬ R 69 k) : xTg h1 rf G := by
  refine ⟨by rw [f.1 _ _ d.1]; exact t.1, by rw [f.1 _ _ d.2]; exact t.2.1, fun k n e => ?_⟩
  rw [f.1 68 _ (d2 _ _ (by omega) (by omega)), f.2.1 _ _ (d3 _), f.1 70 _ (d2 _ _ (by omega) (by omega)), f.1 71 _ (d2 _ _ (by omega) (by omega)), f.1 72 _ (d2 _ _ (by omega) (by omega)), f.1 74 _ (d2 _ _ (by omega) (by omega)), f.1 73 _ (d2 _ _ (by omega) (by omega))]
  exact t.2.2 k n e
theorem s110 {R : List tst} {kk : Nat} {y : tst} (o : slO rn rt rs) (u : xRu h 53 rn rt rs) (t : xTg h (fun z => gR h 53 z) G) (g : tGk (tEq rn rt rs) G) (gr : tGr rn (fun x => tRw (sP rn rt rs x)) G) (hG : G.length ≤ 320) (hc : c = -1 ∨ (0 ≤ c ∧ c < G.length)) (hx : 0 ≤ x ∧ x < 8) (hn : ¬ rn x = 0) (xr : xRw h R) (hy : R[kk]? = some y) (hR : R.length ≤ 40) (ym : y ∈ tRw (sP rn rt rs x)) {K : Int → zH → Prop} (q : K (fC (tEq rn rt rs) G c (x, y)) h) : zC1 110 [vR 63 106, vI c, vR (gR h 53 x) 103, vI kk] h K := by
  have fx := o.tr hx hn
  have pt := u.pt o hx hn
  have lk := lt_q hy
  have ry := xr.2 kk y hy
  have key : ∀ (f n : Nat) (l5 : Int) (u1 : zV), n ≤ f → n ≤ G.length → 0 ≤ l5 → l5 + n ≤ 320 → (∀ i : Int, (n : Int) ≤ i → ¬ mtc (tEq rn rt rs) G c (x, y) i) → zK 110 23 [vR 63 106, u1, vR (gR h 53 x) 103, vI kk, vI (lc G c n), vI l5] [] h (fun r h1 => ∃ v : Int, r = some (Sum.inl v) ∧ K v h1) := by
    intro f
    induction f with
    | zero =>
      intro n l5 u1 hn hG l0 l1 no
      have n0 : n = 0 := by omega
      subst n0
      have e : fC (tEq rn rt rs) G c (x, y) = -1 := fC_n (fun j z => no j (mtc_lt z).1 z)
      rw [e] at q
      exact k110_23 u1 _ _ _ l5 h _ ⟨fun _ => zq1 q, fun _ => ⟨fun _ => zq1 q, fun d => absurd rfl d⟩⟩
    | succ f ih =>
      intro n l5 u1 hn2 hG l0 l1 no
      rcases lc_rg (G := G) (c := c) n with z | ⟨j, j1, j2, j3, j4⟩
      · have e : fC (tEq rn rt rs) G c (x, y) = -1 := fC_n (fun j m => by
          by_cases d : (n : Int) ≤ j
          · exact no j d m
          · obtain ⟨nn, m0, m1, m2, _⟩ := m
            exact z.2 j.toNat (by omega) (by rw [abv_s m1]; exact m2))
        rw [e] at q
        exact k110_23 u1 _ _ _ l5 h _ ⟨fun _ => zq1 q, fun _ => ⟨fun _ => zq1 q, fun d => absurd z.1 d⟩⟩
      · rw [j2]
        obtain ⟨nn, en⟩ : ∃ nn, G[j]? = some nn := ⟨G[j]'(by omega), List.getElem?_eq_getElem (by omega)⟩
        have ec : nn.1 = c := by rw [← abv_s en]; exact j3
        have tj := t.2.2 j nn en
        have gj := gr j nn en
        have fj := o.tr gj.1 gj.2.1
        have pj := u.pt o gj.1 gj.2.1
        refine k110_23 u1 _ _ _ l5 h _ ⟨fun d => absurd d (by omega), fun _ => ⟨fun d => absurd d (by omega), fun _ => s111 (y := nn.2.2) (y2 := y) ⟨by omega, by omega⟩ ⟨by omega, by omega⟩ pj.2 fj.2.2.1 fj.1 fj.2.1 pt.2 fx.2.2.1 fx.1 fx.2.1 (fj.2.2.2 _ gj.2.2) (fx.2.2.2 _ ym) tj.2.1 tj.1 tj.2.2.1 tj.2.2.2.1 ry.1 ry.2.1 ry.2.2 ⟨fun z => ⟨by omega, by omega, by unfold inR; omega, ?_⟩, fun z => zq1 ?_⟩⟩⟩
        · rw [tj.2.2.2.2.2.1, ec]
          rw [b2i_eq0] at z
          refine ih j (l5 + 1) u1 (by omega) (by omega) (by omega) (by omega) (fun i hi m => ?_)
          by_cases d : (n : Int) ≤ i
          · exact no i d m
          · obtain ⟨n3, m0, m1, m2, m3⟩ := m
            by_cases e : i = j
            · rw [e, Int.toNat_natCast, en] at m1
              injection m1 with m1
              rw [← m1] at m3
              exact z m3
            · exact j4 i.toNat (by omega) (by omega) (by rw [abv_s m1]; exact m2)
        · rw [b2i_ne0] at z
          have e : fC (tEq rn rt rs) G c (x, y) = j := fC_u (fun n n2 => tEq_s n n2) g ⟨nn, by omega, by rw [Int.toNat_natCast]; exact en, ec, z⟩
          rwa [e] at q
  have top : ∀ i : Int, (G.length : Int) ≤ i → ¬ mtc (tEq rn rt rs) G c (x, y) i := fun i hi m => by have := (mtc_lt m).2; omega
  refine cI (k110_0 c _ kk h _ ⟨fun d => ?_, fun d => ?_⟩)
  · obtain ⟨nn, en⟩ : ∃ nn, G[c.toNat]? = some nn := ⟨G[c.toNat]'(by omega), List.getElem?_eq_getElem (by omega)⟩
    have tj := (t.2.2 c.toNat nn en).2.2.2.2.2.2
    rw [show ((c.toNat : Nat) : Int) = c by omega] at tj
    rw [tj]
    exact ⟨by omega, by omega, key G.length G.length 0 _ (by omega) (by omega) (by omega) (by omega) top⟩
  · have d := Classical.not_not.1 d
    rw [t.2.1]
    have := key G.length G.length 0 (vI c) (by omega) (by omega) (by omega) (by omega) top
    rw [d] at this ⊢
    exact this
end XG
