/-! The model: tests asked at a node. -/
section AM
variable {h : zH} {t : Int → Int} {n nd nc v : Int} {T C : pT} {rn : Int → Int} {rt : Int → Int → Int} {rs : Int → pS}
theorem mTs.fr {P : Nat → Int → Prop} {h1 : zH} (x : mTs h rn rt rs) (f : frP P h h1) (d : ¬ P 127 54 ∧ ¬ P 127 55) (d2 : ∀ b k, 150 ≤ b → b ≤ 161 → ¬ P b k) : mTs h1 rn rt rs :=
  ⟨x.1.fr f (fun k => d2 _ _ (by omega) (by omega)) (fun b k _ _ => d2 _ _ (by omega) (by omega)), x.2.1.fr f d.1 (fun k => ⟨d2 _ _ (by omega) (by omega), d2 _ _ (by omega) (by omega)⟩), by rw [f.1 _ _ d.2]; exact x.2.2⟩
theorem s222 (gs : sF t n nd nc T C) (x : mN h t n nd nc T C) (o : slO rn rt rs) (u : mRu h rn rt rs) (tt : mTs h rn rt rs) (g : tGk (tEq rn rt rs) (gTs rn rt rs)) (gr : tGr rn (fun x => tRw (sP rn rt rs x)) (gTs rn rt rs)) (hG : (gTs rn rt rs).length ≤ 320) {K : Int → zH → Prop} (q : ∀ h1, frP maA h h1 → gI h1 127 0 = 0 → K (aAsk t nd T rn rt rs v) h1) : zC1 222 [vR 127 111, vI v] h K := by
  have hn := gs.hn
  have key : (0 ≤ v ∧ v < nd) → ∀ (f j : Nat) (q0 : Int) (h1 : zH) (u6 : zV), j + f = (gTs rn rt rs).length → frP maA h h1 → gI h1 127 0 = 0 → (∀ i : Nat, i < j → gI h1 162 i = b2i (soJ (hJ t T rn rt rs v) (gTs rn rt rs) i)) → 0 ≤ q0 → q0 ≤ j → q0 + cnt (askJ (hJ t T rn rt rs v) (gTs rn rt rs)) f j = cnt (askJ (hJ t T rn rt rs v) (gTs rn rt rs)) (gTs rn rt rs).length 0 → zK 222 19 [vR 127 111, vI v, vI q0, vI (j : Nat), u6] [] h1 (fun r h1 => ∃ v : Int, r = some (Sum.inl v) ∧ K v h1) := by
    intro hv f
    unfold aAsk at q
    rw [if_pos hv] at q
    induction f with
    | zero =>
      intro j q0 h1 u6 hj f1 z1 v1 c0 c1 ce
      have e5 : gI h1 127 54 = (gTs rn rt rs).length := by rw [f1.1 _ _ (by unfold maA gWB gWA; omega)]; exact tt.2.1.1
      refine k222_19 v q0 j u6 h1 _ ?_
      rw [e5]
      refine ⟨fun _ => zq1 ?_, fun d => absurd (by omega) d⟩
      have := q h1 f1 z1
      rw [← ce, cnt, Int.add_zero] at this
      exact this
    | succ f ih =>
      intro j q0 h1 u6 hj f1 z1 v1 c0 c1 ce
      have hl : j < (gTs rn rt rs).length := by omega
      have en : (gTs rn rt rs)[j]? = some ((gTs rn rt rs)[j]'hl) := List.getElem?_eq_getElem hl
      generalize (gTs rn rt rs)[j]'hl = nn at en
      have t1 : mTs h1 rn rt rs := tt.fr f1 (by unfold maA gWB gWA; omega) (fun b k _ _ => by unfold maA gWB gWA; omega)
      obtain ⟨tj1, kj, tj2, tj3, tj4⟩ := t1.2.1.2 j nn en
      have gj := gr j nn en
      have fx := o.tr gj.1 gj.2.1
      have so := so_e (H := hJ t T rn rt rs v) g en
      have ask := ask_e (H := hJ t T rn rt rs v) en
      have ab := g.2 j nn en
      have put : ∀ (s0 l6 : Int) (h3 : zH), frP maA h h3 → gI h3 127 0 = 0 → (∀ i : Nat, i < j → gI h3 162 i = b2i (soJ (hJ t T rn rt rs v) (gTs rn rt rs) i)) → s0 = b2i (soJ (hJ t T rn rt rs v) (gTs rn rt rs) j) → l6 = b2i (askJ (hJ t T rn rt rs v) (gTs rn rt rs) j) → zK 222 87 [vR 127 111, vI v, vI q0, vI (j : Nat), vI l6] [vI s0, vI (j : Nat), vR 162 32141] h3 (fun r h1 => ∃ v : Int, r = some (Sum.inl v) ∧ K v h1) := by
        intro s0 l6 h3 f3 z3 v3 es el
        refine k222_87 v q0 j l6 s0 j h3 _ ⟨by omega, by omega, by rw [es]; exact b2i_01, fun h4 e4 => ?_⟩
        have f4 : frP maA h h4 := by rw [e4]; exact f3.st (Or.inr (Or.inl rfl))
        have z4 : gI h4 127 0 = 0 := by rw [e4, gS, if_neg (by omega)]; exact z3
        have v4 : ∀ i : Nat, i < j + 1 → gI h4 162 i = b2i (soJ (hJ t T rn rt rs v) (gTs rn rt rs) i) := fun i hi => by
          rw [e4, gS]
          by_cases d : i = j
          · rw [if_pos ⟨rfl, by omega⟩, d, es]
          · rw [if_neg (by omega)]; exact v3 i (by omega)
        refine ⟨fun z => ⟨by unfold inR; omega, by unfold inR; omega, ih (j + 1) _ h4 _ (by omega) f4 z4 v4 (by omega) (by omega) ?_⟩, fun z => ⟨by unfold inR; omega, by unfold inR; omega, ih (j + 1) _ h4 _ (by omega) f4 z4 v4 (by omega) (by omega) ?_⟩⟩
        · rw [el, b2i_eq0] at z
          rw [cnt_n z] at ce
          rw [show ((j + 1 : Nat) : Int) = (j : Int) + 1 by omega, Int.add_zero]; exact ce
        · rw [el, b2i_ne0] at z
          rw [cnt_y z] at ce
          rw [show ((j + 1 : Nat) : Int) = (j : Int) + 1 by omega]; omega
      have asked : nn.1 = -1 ∨ soJ (hJ t T rn rt rs v) (gTs rn rt rs) nn.1 → zK 222 51 [vR 127 111, vI v, vI q0, vI (j : Nat), u6] [] h1 (fun r h1 => ∃ v : Int, r = some (Sum.inl v) ∧ K v h1) := by
        intro ak
        have vd := vdG o g gr en ak
        have x1 : mN h1 t n nd nc T C := x.fr hn f1 (fun k _ _ => by unfold maA gWB gWA; omega) (by unfold maA gWB gWA; omega) (fun k => by unfold maA gWB gWA; omega)
        have u1 : mRu h1 rn rt rs := u.fr o f1 (fun k _ => by unfold maA gWB gWA; omega) (fun k => by unfold maA gWB gWA; omega)
        have pt := u1.pt o gj.1 gj.2.1
        have rj := (t1.1 _ gj.1.1 gj.1.2 gj.2.1).2 kj _ tj4
        refine k222_51 v q0 j u6 h1 _ (k222_56 v q0 j u6 1 h1 _ ⟨fun z => absurd z (by omega), fun _ => ?_⟩)
        rw [tj3]
        refine ⟨by omega, by omega, s221 gs x1 pt fx.2.2.1.2.1 fx.1 (fx.2.2.2 _ gj.2.2) ((o.rw gj.1 gj.2.1).r5 _ gj.2.2) tj2 rj.1 rj.2 hv vd.1 vd.2 (fun h3 f3 => ?_)⟩
        have F3 : frP maA h h3 := f1.tr (f3.mo (fun b k q => Or.inr (Or.inr q)))
        have z3 : gI h3 127 0 = 0 := by rw [f3.1 _ _ (by unfold gWB gWA; omega)]; exact z1
        have v3 : ∀ i : Nat, i < j → gI h3 162 i = b2i (soJ (hJ t T rn rt rs v) (gTs rn rt rs) i) := fun i hi => by rw [f3.1 _ _ (by unfold gWB gWA; omega)]; exact v1 i hi
        refine ⟨fun z => k222_86 v q0 j 1 j h3 _ (put 0 1 h3 F3 z3 v3 ?_ ?_), fun z => put 1 1 h3 F3 z3 v3 ?_ ?_⟩
        · rw [b2i_eq0] at z; rw [b2i_neg (fun q => z (so.1 q).2)]
        · rw [b2i_pos (ask.2 ak)]
        · rw [b2i_ne0] at z; rw [b2i_pos (so.2 ⟨ak, z⟩)]
        · rw [b2i_pos (ask.2 ak)]
      refine k222_19 v q0 j u6 h1 _ ?_
      rw [t1.2.1.1, tj1]
      refine ⟨fun d => absurd d (by omega), fun _ => ⟨by omega, by omega, fun c => asked (Or.inl c), fun c => ⟨by omega, by omega, by omega, by omega, fun z => ?_, fun z => asked (Or.inr ?_)⟩⟩⟩
      · have e := v1 nn.1.toNat (by omega)
        rw [show ((nn.1.toNat : Nat) : Int) = nn.1 by omega, z] at e
        have ns : ¬ soJ (hJ t T rn rt rs v) (gTs rn rt rs) nn.1 := b2i_eq0.1 e.symm
        have na : ¬ askJ (hJ t T rn rt rs v) (gTs rn rt rs) j := fun q => by rcases ask.1 q with r | r; exact c r; exact ns r
        refine k222_56 v q0 j u6 0 h1 _ ⟨fun _ => k222_86 v q0 j 0 j h1 _ (put 0 0 h1 f1 z1 v1 ?_ ?_), fun d => absurd rfl d⟩
        · rw [b2i_neg (fun q => na (ask.2 (so.1 q).1))]
        · rw [b2i_neg na]
      · have e := v1 nn.1.toNat (by omega)
        rw [show ((nn.1.toNat : Nat) : Int) = nn.1 by omega] at e
        rw [e] at z
        exact b2i_ne0.1 z
  refine cI (k222_0 v h _ (fun h5 e5 => ?_))
  have f5 : frP maA h h5 := by rw [e5]; exact frP.rf.st (Or.inl ⟨rfl, rfl⟩)
  have z5 : gI h5 127 0 = 0 := by rw [e5, gS1]
  have x5 : mN h5 t n nd nc T C := x.fr hn f5 (fun k _ _ => by unfold maA gWB gWA; omega) (by unfold maA gWB gWA; omega) (fun k => by unfold maA gWB gWA; omega)
  refine s157 gs x5.2.1 ⟨fun c => ?_, fun c => zq1 ?_⟩
  · rw [b2i_ne0] at c
    exact key c (gTs rn rt rs).length 0 0 h5 _ (Nat.zero_add _) f5 z5 (fun i hi => by omega) (by omega) (by omega) (by rw [Int.zero_add]; rfl)
  · have c := b2i_eq0.1 (Classical.not_not.1 c)
    have := q h5 f5 z5
    unfold aAsk at this
    rwa [if_neg c] at this
end AM
