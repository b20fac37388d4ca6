/-! Tests asked at a node: both programs. -/
def hJ (t : Int → Int) (T : pT) (rn : Int → Int) (rt : Int → Int → Int) (rs : Int → pS) (v : Int) (a : tsl) : Prop := hld t (rt a.1) T (sP rn rt rs a.1) v a.2
noncomputable def aAsk (t : Int → Int) (nd : Int) (T : pT) (rn : Int → Int) (rt : Int → Int → Int) (rs : Int → pS) (v : Int) : Int := if 0 ≤ v ∧ v < nd then cnt (askJ (hJ t T rn rt rs v) (gTs rn rt rs)) (gTs rn rt rs).length 0 else -1
def asA (b : Nat) (k : Int) : Prop := b = 75 ∨ b = 76 ∨ fiA b k
def maA (b : Nat) (k : Int) : Prop := (b = 127 ∧ k = 0) ∨ b = 162 ∨ gWB b k
section AK
variable {h : zH} {t : Int → Int} {n nd nc v : Int} {T C : pT} {rn : Int → Int} {rt : Int → Int → Int} {rs : Int → pS} {a : Nat}
theorem slO.rw (o : slO rn rt rs) {x : Int} (hx : 0 ≤ x ∧ x < 8) (hn : ¬ rn x = 0) : rwG (sP rn rt rs x) [] (tRw (sP rn rt rs x)) := by
  have g := o.gd hx hn
  have en := g.1.en.1
  have p8 := g.1.p8 g.2 (o.rd hx hn)
  have N := en.N
  exact tS_g en p8 20 0 (fun _ => -1) [] (by omega) ⟨by omega, fun _ p p0 p1 => by omega, fun l hl => absurd rfl hl⟩
theorem vdG (o : slO rn rt rs) (g : tGk (tEq rn rt rs) (gTs rn rt rs)) (gr : tGr rn (fun x => tRw (sP rn rt rs x)) (gTs rn rt rs)) {j : Nat} {n : tnd} (e : (gTs rn rt rs)[j]? = some n) (ak : n.1 = -1 ∨ soJ (hJ t T rn rt rs v) (gTs rn rt rs) n.1) : vdP T v (pth (sP rn rt rs n.2.1) n.2.2.2.1) ∧ (n.2.2.1 = 4 → vdP T v (pth (sP rn rt rs n.2.1) n.2.2.2.2)) := by
  obtain ⟨k, e1, q⟩ := gTs_p j n e
  have gj := gr j n e
  have fx := o.tr gj.1 gj.2.1
  have N := fx.1.N
  have tg := rwG.at (o.rw gj.1 gj.2.1) e1
  have two : ∀ p, (2, p, -1) ∈ ([] : List tst) ++ (tRw (sP rn rt rs n.2.1)).take k → T (ndP T v (pth (sP rn rt rs n.2.1) p)) 3 = sP rn rt rs n.2.1 1 p 6 := by
    intro p hp
    rw [List.nil_append] at hp
    obtain ⟨i, i1, i2⟩ := mem_tk hp
    obtain ⟨b, n2, b1, b2, b3⟩ := q _ (so_up g) ak i _ i1 i2
    have hh := ((so_e g b1).1 b2).2
    obtain ⟨c1, c2, c3, _⟩ := b3
    have z := hh.2.2.1 c1
    have c3 := c3 c1
    rw [c2, c3] at z
    exact z
  have go : ∀ i, 0 ≤ i → i < sP rn rt rs n.2.1 0 0 1 → aGd (sP rn rt rs n.2.1) (([] : List tst) ++ (tRw (sP rn rt rs n.2.1)).take k) i → vdP T v (pth (sP rn rt rs n.2.1) i) := fun i i0 i1 ag => vdI fx.1 (i + 1).toNat i (by omega) i0 i1 (fun p p0 p1 p2 => ⟨(ag p p0 p1 p2).1, two p (ag p p0 p1 p2).2.2⟩)
  refine ⟨go _ tg.1.1 tg.1.2 tg.2.1, fun c => ?_⟩
  rcases tg.2.2 with z | z | z | z | z
  · omega
  · omega
  · omega
  · omega
  · exact go _ z.2.2.1.1 z.2.2.1.2 z.2.2.2.2
theorem s113 (gs : sF t n nd nc T C) (x : xN h a t n nd nc T C) (ty : zty 102 a h) (ha : a + 16 ≤ 56) (o : slO rn rt rs) (u : xRu h 53 rn rt rs) (tt : xTg h (fun z => gR h 53 z) (gTs rn rt rs)) (g : tGk (tEq rn rt rs) (gTs rn rt rs)) (gr : tGr rn (fun x => tRw (sP rn rt rs x)) (gTs rn rt rs)) (hG : (gTs rn rt rs).length ≤ 320) (hv : 0 ≤ v ∧ v < nd) {K : Int → zH → Prop} (q : ∀ h1, frX asA fiR h h1 → K (cnt (askJ (hJ t T rn rt rs v) (gTs rn rt rs)) (gTs rn rt rs).length 0) h1) : zC1 113 [vR 63 106, vR a 102, vI v, vR 56 105] h K := by
  have key : ∀ (f j : Nat) (q0 : Int) (h1 : zH) (u6 : zV), j + f = (gTs rn rt rs).length → frX asA fiR h h1 → (∀ i : Nat, i < j → gI h1 75 i = b2i (soJ (hJ t T rn rt rs v) (gTs rn rt rs) i)) → 0 ≤ q0 → q0 ≤ j → q0 + cnt (askJ (hJ t T rn rt rs v) (gTs rn rt rs)) f j = cnt (askJ (hJ t T rn rt rs v) (gTs rn rt rs)) (gTs rn rt rs).length 0 → zK 113 6 [vR 63 106, vR a 102, vI v, vR 56 105, vI q0, vI (j : Nat), u6] [] h1 (fun r h1 => ∃ v : Int, r = some (Sum.inl v) ∧ K v h1) := by
    intro f
    induction f with
    | zero =>
      intro j q0 h1 u6 hj f1 v1 c0 c1 ce
      have e5 : gI h1 63 5 = (gTs rn rt rs).length := by rw [f1.1 _ _ (by unfold asA fiA; omega)]; exact tt.1
      refine k113_6 a v q0 j u6 h1 _ ?_
      rw [e5]
      refine ⟨fun _ => zq1 ?_, fun d => absurd (by omega) d⟩
      have := q h1 f1
      rw [← ce, cnt, Int.add_zero] at this
      exact this
    | succ f ih =>
      intro j q0 h1 u6 hj f1 v1 c0 c1 ce
      have hl : j < (gTs rn rt rs).length := by omega
      have en : (gTs rn rt rs)[j]? = some ((gTs rn rt rs)[j]'hl) := List.getElem?_eq_getElem hl
      generalize (gTs rn rt rs)[j]'hl = nn at en
      have e5 : gI h1 63 5 = (gTs rn rt rs).length := by rw [f1.1 _ _ (by unfold asA fiA; omega)]; exact tt.1
      have tj := tt.2.2 j nn en
      have e72 : gI h1 72 j = nn.1 := by rw [f1.1 _ _ (by unfold asA fiA; omega)]; exact tj.2.2.2.2.1
      have gj := gr j nn en
      have fx := o.tr gj.1 gj.2.1
      have so := so_e (H := hJ t T rn rt rs v) g en
      have ask := ask_e (H := hJ t T rn rt rs v) en
      have ab := g.2 j nn en
      have put : ∀ (s0 l6 : Int) (h3 : zH), frX asA fiR h h3 → (∀ i : Nat, i < j → gI h3 75 i = b2i (soJ (hJ t T rn rt rs v) (gTs rn rt rs) i)) → s0 = b2i (soJ (hJ t T rn rt rs v) (gTs rn rt rs) j) → l6 = b2i (askJ (hJ t T rn rt rs v) (gTs rn rt rs) j) → zK 113 76 [vR 63 106, vR a 102, vI v, vR 56 105, vI q0, vI (j : Nat), vI l6] [vI s0, vI (j : Nat), vR 75 32141] h3 (fun r h1 => ∃ v : Int, r = some (Sum.inl v) ∧ K v h1) := by
        intro s0 l6 h3 f3 v3 es el
        refine k113_76 a v q0 j l6 s0 j h3 _ ⟨by omega, by omega, by rw [es]; exact b2i_01, fun h4 e4 => ?_⟩
        have f4 : frX asA fiR h h4 := by rw [e4]; exact f3.st (Or.inl rfl)
        have v4 : ∀ i : Nat, i < j + 1 → gI h4 75 i = b2i (soJ (hJ t T rn rt rs v) (gTs rn rt rs) i) := fun i hi => by
          rw [e4, gS]
          by_cases d : i = j
          · rw [if_pos ⟨rfl, by omega⟩, d, es]
          · rw [if_neg (by omega)]; exact v3 i (by omega)
        refine ⟨fun z => ⟨by unfold inR; omega, by unfold inR; omega, ih (j + 1) _ h4 _ (by omega) f4 v4 (by omega) (by omega) ?_⟩, fun z => ⟨by unfold inR; omega, by unfold inR; omega, ih (j + 1) _ h4 _ (by omega) f4 v4 (by omega) (by omega) ?_⟩⟩
        · rw [el, b2i_eq0] at z
          rw [cnt_n z] at ce
          rw [show ((j + 1 : Nat) : Int) = (j : Int) + 1 by omega, Int.add_zero]; exact ce
        · rw [el, b2i_ne0] at z
          rw [cnt_y z] at ce
          rw [show ((j + 1 : Nat) : Int) = (j : Int) + 1 by omega]; omega
      have asked : nn.1 = -1 ∨ soJ (hJ t T rn rt rs v) (gTs rn rt rs) nn.1 → zK 113 41 [vR 63 106, vR a 102, vI v, vR 56 105, vI q0, vI (j : Nat), u6] [] h1 (fun r h1 => ∃ v : Int, r = some (Sum.inl v) ∧ K v h1) := by
        intro ak
        have vd := vdG o g gr en ak
        have x1 : xN h1 a t n nd nc T C := x.fx f1 (fun b k _ _ => by unfold asA fiA; omega)
        have u1 : xRu h1 53 rn rt rs := u.fx f1 (fun b k _ _ => by unfold asA fiA; omega) (fun k _ _ => by unfold fiR; omega)
        have pt := u1.pt o gj.1 gj.2.1
        have e53 : gR h1 53 nn.2.1 = gR h 53 nn.2.1 := f1.2.1 _ _ (by unfold fiR; omega)
        refine k113_41 a v q0 j u6 h1 _ (k113_46 a v q0 j u6 1 h1 _ ⟨fun z => absurd z (by omega), fun _ => s114 (y := nn.2.2) gs x1 (by rw [f1.ty]; exact ty) (Or.inl ha) pt.2 (by omega) fx.2.2.1 fx.1 (fx.2.2.2 _ gj.2.2) ((o.rw gj.1 gj.2.1).r5 _ gj.2.2) ⟨by omega, by omega⟩ hv vd.1 vd.2 (by rw [f1.1 _ _ (by unfold asA fiA; omega)]; exact tj.1) (by rw [f1.2.1 _ _ (by unfold fiR; omega), e53]; exact tj.2.1) (by rw [f1.1 _ _ (by unfold asA fiA; omega)]; exact tj.2.2.1) (by rw [f1.1 _ _ (by unfold asA fiA; omega)]; exact tj.2.2.2.1) (fun h3 f3 => ?_)⟩)
        have F3 : frX asA fiR h h3 := f1.tr (f3.mo (fun b k q => Or.inr q) (fun b k q => q))
        have v3 : ∀ i : Nat, i < j → gI h3 75 i = b2i (soJ (hJ t T rn rt rs v) (gTs rn rt rs) i) := fun i hi => by rw [f3.1 _ _ (by unfold fiA; omega)]; exact v1 i hi
        refine ⟨fun z => k113_75 a v q0 j 1 j h3 _ (put 0 1 h3 F3 v3 ?_ ?_), fun z => put 1 1 h3 F3 v3 ?_ ?_⟩
        · rw [b2i_eq0] at z; rw [b2i_neg (fun q => z (so.1 q).2)]
        · rw [b2i_pos (ask.2 ak)]
        · rw [b2i_ne0] at z; rw [b2i_pos (so.2 ⟨ak, z⟩)]
        · rw [b2i_pos (ask.2 ak)]
      refine k113_6 a v q0 j u6 h1 _ ?_
      rw [e5, e72]
      refine ⟨fun d => absurd d (by omega), fun _ => ⟨by omega, by omega, fun c => asked (Or.inl c), fun c => ⟨by omega, by omega, by omega, by omega, fun z => ?_, fun z => asked (Or.inr ?_)⟩⟩⟩
      · have e := v1 nn.1.toNat (by omega)
        rw [show ((nn.1.toNat : Nat) : Int) = nn.1 by omega, z] at e
        have ns : ¬ soJ (hJ t T rn rt rs v) (gTs rn rt rs) nn.1 := b2i_eq0.1 e.symm
        have na : ¬ askJ (hJ t T rn rt rs v) (gTs rn rt rs) j := fun q => by rcases ask.1 q with r | r; exact c r; exact ns r
        refine k113_46 a v q0 j u6 0 h1 _ ⟨fun _ => k113_75 a v q0 j 0 j h1 _ (put 0 0 h1 f1 v1 ?_ ?_), fun d => absurd rfl d⟩
        · rw [b2i_neg (fun q => na (ask.2 (so.1 q).1))]
        · rw [b2i_neg na]
      · have e := v1 nn.1.toNat (by omega)
        rw [show ((nn.1.toNat : Nat) : Int) = nn.1 by omega] at e
        rw [e] at z
        exact b2i_ne0.1 z
  exact cI (k113_0 a v h _ (key (gTs rn rt rs).length 0 0 h _ (Nat.zero_add _) frX.rf (fun i hi => by omega) (by omega) (by omega) (by rw [Int.zero_add]; rfl)))
theorem s18 (gs : sF t n nd nc T C) (y : xU h a t n nd nc T C) (ha : a + 16 ≤ 53) (o : slO rn rt rs) (u : xRu h 53 rn rt rs) {K : Int → zH → Prop} (k : ∀ h1, frX (fun b k => teA b k ∨ asA b k) (fun b k => teR b k ∨ fiR b k) h h1 → K (aAsk t nd T rn rt rs v) h1) : zC1 18 [vR 2 100, vI v] h K := by
  unfold aAsk at k
  refine cI (k18_0 v h _ (s30 y ⟨fun c => s108 o u (fun h5 f5 t5 g5 gr5 l5 => ?_), fun c => zq1 ?_⟩))
  · rw [b2i_ne0] at c
    rw [if_pos c] at k
    have y5 : xU h5 a t n nd nc T C := y.fx f5 (fun b k _ _ => by unfold teA; omega) (by unfold teR; omega)
    have u5 : xRu h5 53 rn rt rs := u.fx f5 (fun b k _ _ => by unfold teA; omega) (fun k _ _ => by unfold teR; omega)
    rw [y5.1]
    exact ⟨y5.2.1, s113 gs y5.2.2 y5.2.1 (by omega) o u5 t5 g5 gr5 l5 c (fun h6 f6 => zq1 (k h6 ((f5.mo (fun b k q => Or.inl q) (fun b k q => Or.inl q)).tr (f6.mo (fun b k q => Or.inr q) (fun b k q => Or.inr q)))))⟩
  · have c := b2i_eq0.1 (Classical.not_not.1 c)
    have := k h frX.rf
    rwa [if_neg c] at this
end AK
