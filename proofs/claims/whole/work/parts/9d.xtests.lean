/-! The program: all tests, and tests. -/
noncomputable def aTst (rn : Int → Int) (rt : Int → Int → Int) (rs : Int → pS) (q : Int) : Int := if q = 0 then nTs rn rt rs 8 0 0 else if q = 1 then ((gTs rn rt rs).length : Int) else -1
section XI
variable {h : zH} {rn : Int → Int} {rt : Int → Int → Int} {rs : Int → pS}
theorem s108 (o : slO rn rt rs) (u : xRu h 53 rn rt rs) {K : Int → zH → Prop} (k : ∀ h1, frX teA teR h h1 → xTg h1 (fun z => gR h1 53 z) (gTs rn rt rs) → tGk (tEq rn rt rs) (gTs rn rt rs) → tGr rn (fun x => tRw (sP rn rt rs x)) (gTs rn rt rs) → (gTs rn rt rs).length ≤ 320 → K (gTs rn rt rs).length h1) : zC1 108 [vR 63 106, vR 53 944] h K := by
  have key : ∀ (f : Nat) (z : Int) (G : List tnd) (h1 : zH), z + f = 8 → 0 ≤ z → frX teA teR h h1 → xTg h1 (fun z => gR h1 53 z) G → tGk (tEq rn rt rs) G → tGr rn (fun x => tRw (sP rn rt rs x)) G → (G.length : Int) ≤ 40 * z → trS (tEq rn rt rs) rn (fun x => tRw (sP rn rt rs x)) f z G = gTs rn rt rs → zK 108 12 [vR 63 106, vR 53 944, vI z] [] h1 (fun r h1 => ∃ v : Int, r = some (Sum.inl v) ∧ K v h1) := by
    intro f
    induction f with
    | zero =>
      intro z G h1 hz z0 f1 t1 g1 gr1 l1 e
      rw [trS] at e
      subst e
      refine k108_12 53 z h1 _ ?_
      rw [t1.1]
      exact ⟨fun _ => zq1 (k h1 f1 t1 g1 gr1 (by omega)), fun d => absurd (by omega) d⟩
    | succ f ih =>
      intro z G h1 hz z0 f1 t1 g1 gr1 l1 e
      rw [trS] at e
      have u1 : xRu h1 53 rn rt rs := u.fx f1 (fun b k _ _ => by unfold teA; omega) (fun k _ _ => by unfold teR; omega)
      have uz := u1 z z0 (by omega)
      refine k108_12 53 z h1 _ ⟨fun d => absurd d (by omega), fun _ => ⟨z0, by omega, fun c => ⟨by unfold inR; omega, ?_⟩, fun c => ?_⟩⟩
      · have rz : rn z = 0 := by
          apply Classical.byContradiction; intro d
          have := (uz.2 d).1
          omega
        rw [if_pos rz] at e
        exact ih (z + 1) G h1 (by omega) (by omega) f1 t1 g1 gr1 (by omega) e
      · have rz : ¬ rn z = 0 := fun d => c (uz.1 d)
        rw [if_neg rz] at e
        refine ⟨z0, by omega, (uz.2 rz).2.2.1, s109 o u1 t1 g1 gr1 (by omega) ⟨z0, by omega⟩ rz (fun h6 f6 t6 g6 gr6 l6 => ⟨by unfold inR; omega, ih (z + 1) _ h6 (by omega) (by omega) (f1.tr f6) t6 g6 gr6 (by omega) e⟩)⟩
  refine cI (k108_0 53 h _ (fun h4 e4 h5 e5 => ?_))
  refine key 8 0 [] h5 (by omega) (by omega) (by rw [e5, e4]; exact (frX.rf.st (by unfold teA; omega)).st (by unfold teA; omega)) ⟨by rw [e5, gS, if_neg (by omega), e4, gS1]; rfl, by rw [e5, gS1]; rfl, fun k n e => (by cases e)⟩ ⟨fun i j n n2 _ e => (by cases e), fun j n e => (by cases e)⟩ (fun j n e => (by cases e)) (by show (0 : Int) ≤ _; omega) rfl
theorem s36 (o : slO rn rt rs) (u : xRu h 53 rn rt rs) {K : Int → zH → Prop} (k : ∀ h1, frX teA teR h h1 → K (nTs rn rt rs 8 0 0) h1) : zC1 36 [vR 2 100] h K := by
  have key : ∀ (f : Nat) (z q : Int) (h1 : zH), z + f = 8 → 0 ≤ z → frX teA teR h h1 → 0 ≤ q → q ≤ 40 * z → nTs rn rt rs f z q = nTs rn rt rs 8 0 0 → zK 36 4 [vR 2 100, vI q, vI z] [] h1 (fun r h1 => ∃ v : Int, r = some (Sum.inl v) ∧ K v h1) := by
    intro f
    induction f with
    | zero =>
      intro z q h1 hz z0 f1 q0 q1 e
      rw [nTs] at e
      subst e
      exact k36_4 _ z h1 _ ⟨fun _ => zq1 (k h1 f1), fun d => absurd (by omega) d⟩
    | succ f ih =>
      intro z q h1 hz z0 f1 q0 q1 e
      rw [nTs] at e
      have u1 : xRu h1 53 rn rt rs := u.fx f1 (fun b k _ _ => by unfold teA; omega) (fun k _ _ => by unfold teR; omega)
      have uz := u1 z z0 (by omega)
      refine k36_4 q z h1 _ ⟨fun d => absurd d (by omega), fun _ => ⟨z0, by omega, fun c => ?_, fun c => ?_⟩⟩
      · have rz : ¬ rn z = 0 := fun d => c (uz.1 d)
        rw [if_neg rz] at e
        have fz := o.tr ⟨z0, by omega⟩ rz
        have pz := u1.pt o ⟨z0, by omega⟩ rz
        have l40 := tRw_l (s := sP rn rt rs z)
        refine ⟨z0, by omega, (uz.2 rz).2.2.1, s105 pz.2 fz.1 (by omega) (fun h2 f2 _ => ⟨by unfold inR; omega, by unfold inR; omega, ih (z + 1) _ h2 (by omega) (by omega) (f1.tr (f2.mo (fun b k q => by unfold trA at q; unfold teA; omega)).x) (by omega) (by omega) e⟩)⟩
      · have rz : rn z = 0 := by
          apply Classical.byContradiction; intro d
          have := (uz.2 d).1
          omega
        rw [if_pos rz] at e
        exact ⟨by unfold inR; omega, by unfold inR; omega, ih (z + 1) _ h1 (by omega) (by omega) f1 (by omega) (by omega) (by rw [Int.add_zero]; exact e)⟩
  exact cI (k36_0 h _ (key 8 0 0 h (by omega) (by omega) frX.rf (by omega) (by omega) rfl))
theorem s17 {q : Int} (o : slO rn rt rs) (u : xRu h 53 rn rt rs) {K : Int → zH → Prop} (k : ∀ h1, frX teA teR h h1 → K (aTst rn rt rs q) h1) : zC1 17 [vR 2 100, vI q] h K := by
  unfold aTst at k
  refine cI (k17_0 q h _ ⟨fun c => s36 o u (fun h1 f1 => zq1 ?_), fun c => ⟨fun d => s108 o u (fun h1 f1 _ _ _ _ => zq1 ?_), fun d => zq1 ?_⟩⟩)
  · have := k h1 f1; rwa [if_pos c] at this
  · have := k h1 f1; rwa [if_neg c, if_pos d] at this
  · have := k h frX.rf; rwa [if_neg c, if_neg d] at this
end XI
