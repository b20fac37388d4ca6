/-! One turn of the law's loop. (Written by genturn.py.) -/
abbrev lws (i : Int) (u5 u6 : zV) : List zV := [vR 1 147, vR 2 0, vR 127 0, vR 170 0, vI i, u5, u6]
section TU
variable {h : zH} {i : Int} {u5 u6 : zV} {K : Nat → List zV → List zV → zH → Prop}
theorem ciX.n (x : CI h) : zty 100 2 h := by
  obtain ⟨a, a2, S, rn, rt, rs, ty, m, c, pt, pn, x⟩ := x
  exact x.2.2.2.2.2.2.1.2.1
theorem turn (x : CI h) (i0 : 0 ≤ i) (i1 : i + 5 ≤ Int.ofNat (ln h 1)) (l : Int.ofNat (ln h 1) ≤ 2560) (k1 : ∀ h2, ciX h h2 → K 23 (lws (i + 5) u5 u6) [] h2) (k2 : K 283 (lws i u5 u6) [vR 170 0, vI (gI h 1 (i + 2)), vI (gI h 1 (i + 1)), vR 2 0] h) : zU K 23 (lws i u5 u6) [] h := by
  have R : ∀ j, 0 ≤ j → j ≤ 5 → inR (i + j) := fun j j0 j1 => by unfold inR; omega
  have t := ciX.n x
  have fin : ∀ h2, ciX h h2 → zU K 1128 (lws i u5 u6) [] h2 := fun h2 c => q1128 1 2 127 170 i u5 u6 h2 K ⟨R 5 (by omega) (by omega), zU_k (k1 h2 c)⟩
  have c0 : zU K 168 (lws i u5 u6) [] h := q168 1 2 127 170 i u5 u6 h K ⟨R 1 (by omega) (by omega), by omega, by omega, t, zC1_mo (g1 x) (fun v h1 e => by
    obtain ⟨m, d⟩ := e
    exact ⟨R 1 (by omega) (by omega), by omega, by rw [m.2.1]; omega, m.2.2, by rw [m.1]; exact zC1_mo d (fun w h2 e => ⟨fun _ => fin h2 e.2, fun z => absurd e.1 z⟩)⟩)⟩
  have c1 : zU K 193 (lws i u5 u6) [] h := q193 1 2 127 170 i u5 u6 h K ⟨R 1 (by omega) (by omega), by omega, by omega, t, zC1_mo (g2 x) (fun v h1 e => by
    obtain ⟨m, d⟩ := e
    exact ⟨R 1 (by omega) (by omega), by omega, by rw [m.2.1]; omega, m.2.2, by rw [m.1]; exact zC1_mo d (fun w h2 e => ⟨fun _ => fin h2 e.2, fun z => absurd e.1 z⟩)⟩)⟩
  have c2 : zU K 218 (lws i u5 u6) [] h := q218 1 2 127 170 i u5 u6 h K ⟨t, zC1_mo (g3 x) (fun v h1 e => by
    obtain ⟨m, d⟩ := e
    exact ⟨m.2.2, zC1_mo d (fun w h2 e => ⟨fun _ => fin h2 e.2, fun z => absurd e.1 z⟩)⟩)⟩
  have c3 : zU K 231 (lws i u5 u6) [] h := q231 1 2 127 170 i u5 u6 h K ⟨t, zC1_mo (g4 x) (fun v h1 e => by
    obtain ⟨m, d⟩ := e
    exact ⟨m.2.2, zC1_mo d (fun w h2 e => ⟨fun _ => fin h2 e.2, fun z => absurd e.1 z⟩)⟩)⟩
  have c4 : zU K 244 (lws i u5 u6) [] h := q244 1 2 127 170 i u5 u6 h K ⟨R 1 (by omega) (by omega), by omega, by omega, t, zC1_mo (g5 x) (fun v h1 e => by
    obtain ⟨m, d⟩ := e
    exact ⟨R 1 (by omega) (by omega), by omega, by rw [m.2.1]; omega, m.2.2, by rw [m.1]; exact zC1_mo d (fun w h2 e => ⟨fun _ => fin h2 e.2, fun z => absurd e.1 z⟩)⟩)⟩
  have c5 : zU K 269 (lws i u5 u6) [] h := q269 1 2 127 170 i u5 u6 h K ⟨R 1 (by omega) (by omega), by omega, by omega, R 2 (by omega) (by omega), by omega, by omega, zU_k k2⟩
  have c6 : zU K 337 (lws i u5 u6) [] h := q337 1 2 127 170 i u5 u6 h K ⟨R 1 (by omega) (by omega), by omega, by omega, R 2 (by omega) (by omega), by omega, by omega, t, zC1_mo (g7 x) (fun v h1 e => by
    obtain ⟨m, d⟩ := e
    exact ⟨R 1 (by omega) (by omega), by omega, by rw [m.2.1]; omega, R 2 (by omega) (by omega), by omega, by rw [m.2.1]; omega, m.2.2, by rw [m.1, m.1]; exact zC1_mo d (fun w h2 e => ⟨fun _ => fin h2 e.2, fun z => absurd e.1 z⟩)⟩)⟩
  have c7 : zU K 374 (lws i u5 u6) [] h := q374 1 2 127 170 i u5 u6 h K ⟨R 1 (by omega) (by omega), by omega, by omega, R 2 (by omega) (by omega), by omega, by omega, t, zC1_mo (g8 x) (fun v h1 e => by
    obtain ⟨m, d⟩ := e
    exact ⟨R 1 (by omega) (by omega), by omega, by rw [m.2.1]; omega, R 2 (by omega) (by omega), by omega, by rw [m.2.1]; omega, m.2.2, by rw [m.1, m.1]; exact zC1_mo d (fun w h2 e => ⟨fun _ => fin h2 e.2, fun z => absurd e.1 z⟩)⟩)⟩
  have c8 : zU K 411 (lws i u5 u6) [] h := q411 1 2 127 170 i u5 u6 h K ⟨R 1 (by omega) (by omega), by omega, by omega, t, zC1_mo (g9 x) (fun v h1 e => by
    obtain ⟨m, d⟩ := e
    exact ⟨R 1 (by omega) (by omega), by omega, by rw [m.2.1]; omega, m.2.2, by rw [m.1]; exact zC1_mo d (fun w h2 e => ⟨fun _ => fin h2 e.2, fun z => absurd e.1 z⟩)⟩)⟩
  have c9 : zU K 436 (lws i u5 u6) [] h := q436 1 2 127 170 i u5 u6 h K ⟨R 1 (by omega) (by omega), by omega, by omega, R 2 (by omega) (by omega), by omega, by omega, t, zC1_mo (g10 x) (fun v h1 e => by
    obtain ⟨m, d⟩ := e
    exact ⟨R 1 (by omega) (by omega), by omega, by rw [m.2.1]; omega, R 2 (by omega) (by omega), by omega, by rw [m.2.1]; omega, m.2.2, by rw [m.1, m.1]; exact zC1_mo d (fun w h2 e => ⟨fun _ => fin h2 e.2, fun z => absurd e.1 z⟩)⟩)⟩
  have c10 : zU K 473 (lws i u5 u6) [] h := q473 1 2 127 170 i u5 u6 h K ⟨R 1 (by omega) (by omega), by omega, by omega, R 2 (by omega) (by omega), by omega, by omega, t, zC1_mo (g11 x) (fun v h1 e => by
    obtain ⟨m, d⟩ := e
    exact ⟨R 1 (by omega) (by omega), by omega, by rw [m.2.1]; omega, R 2 (by omega) (by omega), by omega, by rw [m.2.1]; omega, m.2.2, by rw [m.1, m.1]; exact zC1_mo d (fun w h2 e => ⟨fun _ => fin h2 e.2, fun z => absurd e.1 z⟩)⟩)⟩
  have c11 : zU K 510 (lws i u5 u6) [] h := q510 1 2 127 170 i u5 u6 h K ⟨R 1 (by omega) (by omega), by omega, by omega, R 2 (by omega) (by omega), by omega, by omega, t, zC1_mo (g12 x) (fun v h1 e => by
    obtain ⟨m, d⟩ := e
    exact ⟨R 1 (by omega) (by omega), by omega, by rw [m.2.1]; omega, R 2 (by omega) (by omega), by omega, by rw [m.2.1]; omega, m.2.2, by rw [m.1, m.1]; exact zC1_mo d (fun w h2 e => ⟨fun _ => fin h2 e.2, fun z => absurd e.1 z⟩)⟩)⟩
  have c12 : zU K 547 (lws i u5 u6) [] h := q547 1 2 127 170 i u5 u6 h K ⟨R 1 (by omega) (by omega), by omega, by omega, R 2 (by omega) (by omega), by omega, by omega, t, zC1_mo (g13 x) (fun v h1 e => by
    obtain ⟨m, d⟩ := e
    exact ⟨R 1 (by omega) (by omega), by omega, by rw [m.2.1]; omega, R 2 (by omega) (by omega), by omega, by rw [m.2.1]; omega, m.2.2, by rw [m.1, m.1]; exact zC1_mo d (fun w h2 e => ⟨fun _ => fin h2 e.2, fun z => absurd e.1 z⟩)⟩)⟩
  have c13 : zU K 584 (lws i u5 u6) [] h := q584 1 2 127 170 i u5 u6 h K ⟨R 1 (by omega) (by omega), by omega, by omega, R 2 (by omega) (by omega), by omega, by omega, R 3 (by omega) (by omega), by omega, by omega, R 4 (by omega) (by omega), by omega, by omega, t, zC1_mo (g14 x) (fun v h1 e => by
    obtain ⟨m, d⟩ := e
    exact ⟨R 1 (by omega) (by omega), by omega, by rw [m.2.1]; omega, R 2 (by omega) (by omega), by omega, by rw [m.2.1]; omega, R 3 (by omega) (by omega), by omega, by rw [m.2.1]; omega, R 4 (by omega) (by omega), by omega, by rw [m.2.1]; omega, m.2.2, by rw [m.1, m.1, m.1, m.1]; exact zC1_mo d (fun w h2 e => ⟨fun _ => fin h2 e.2, fun z => absurd e.1 z⟩)⟩)⟩
  have c14 : zU K 645 (lws i u5 u6) [] h := q645 1 2 127 170 i u5 u6 h K ⟨R 1 (by omega) (by omega), by omega, by omega, R 2 (by omega) (by omega), by omega, by omega, t, zC1_mo (g15 x) (fun v h1 e => by
    obtain ⟨m, d⟩ := e
    exact ⟨R 1 (by omega) (by omega), by omega, by rw [m.2.1]; omega, R 2 (by omega) (by omega), by omega, by rw [m.2.1]; omega, m.2.2, by rw [m.1, m.1]; exact zC1_mo d (fun w h2 e => ⟨fun _ => fin h2 e.2, fun z => absurd e.1 z⟩)⟩)⟩
  have c15 : zU K 682 (lws i u5 u6) [] h := q682 1 2 127 170 i u5 u6 h K ⟨R 1 (by omega) (by omega), by omega, by omega, t, zC1_mo (g16 x) (fun v h1 e => by
    obtain ⟨m, d⟩ := e
    exact ⟨R 1 (by omega) (by omega), by omega, by rw [m.2.1]; omega, m.2.2, by rw [m.1]; exact zC1_mo d (fun w h2 e => ⟨fun _ => fin h2 e.2, fun z => absurd e.1 z⟩)⟩)⟩
  have c16 : zU K 707 (lws i u5 u6) [] h := q707 1 2 127 170 i u5 u6 h K ⟨R 1 (by omega) (by omega), by omega, by omega, t, zC1_mo (g17 x) (fun v h1 e => by
    obtain ⟨m, d⟩ := e
    exact ⟨R 1 (by omega) (by omega), by omega, by rw [m.2.1]; omega, m.2.2, by rw [m.1]; exact zC1_mo d (fun w h2 e => ⟨fun _ => fin h2 e.2, fun z => absurd e.1 z⟩)⟩)⟩
  have c17 : zU K 732 (lws i u5 u6) [] h := q732 1 2 127 170 i u5 u6 h K ⟨R 1 (by omega) (by omega), by omega, by omega, t, zC1_mo (g18 x) (fun v h1 e => by
    obtain ⟨m, d⟩ := e
    exact ⟨R 1 (by omega) (by omega), by omega, by rw [m.2.1]; omega, m.2.2, by rw [m.1]; exact zC1_mo d (fun w h2 e => ⟨fun _ => fin h2 e.2, fun z => absurd e.1 z⟩)⟩)⟩
  have c18 : zU K 757 (lws i u5 u6) [] h := q757 1 2 127 170 i u5 u6 h K ⟨R 1 (by omega) (by omega), by omega, by omega, R 2 (by omega) (by omega), by omega, by omega, R 3 (by omega) (by omega), by omega, by omega, t, zC1_mo (g19 x) (fun v h1 e => by
    obtain ⟨m, d⟩ := e
    exact ⟨R 1 (by omega) (by omega), by omega, by rw [m.2.1]; omega, R 2 (by omega) (by omega), by omega, by rw [m.2.1]; omega, R 3 (by omega) (by omega), by omega, by rw [m.2.1]; omega, m.2.2, by rw [m.1, m.1, m.1]; exact zC1_mo d (fun w h2 e => ⟨fun _ => fin h2 e.2, fun z => absurd e.1 z⟩)⟩)⟩
  have c19 : zU K 806 (lws i u5 u6) [] h := q806 1 2 127 170 i u5 u6 h K ⟨R 1 (by omega) (by omega), by omega, by omega, R 2 (by omega) (by omega), by omega, by omega, R 3 (by omega) (by omega), by omega, by omega, t, zC1_mo (g20 x) (fun v h1 e => by
    obtain ⟨m, d⟩ := e
    exact ⟨R 1 (by omega) (by omega), by omega, by rw [m.2.1]; omega, R 2 (by omega) (by omega), by omega, by rw [m.2.1]; omega, R 3 (by omega) (by omega), by omega, by rw [m.2.1]; omega, m.2.2, by rw [m.1, m.1, m.1]; exact zC1_mo d (fun w h2 e => ⟨fun _ => fin h2 e.2, fun z => absurd e.1 z⟩)⟩)⟩
  have c20 : zU K 855 (lws i u5 u6) [] h := q855 1 2 127 170 i u5 u6 h K ⟨R 1 (by omega) (by omega), by omega, by omega, R 2 (by omega) (by omega), by omega, by omega, t, zC1_mo (g21 x) (fun v h1 e => by
    obtain ⟨m, d⟩ := e
    exact ⟨R 1 (by omega) (by omega), by omega, by rw [m.2.1]; omega, R 2 (by omega) (by omega), by omega, by rw [m.2.1]; omega, m.2.2, by rw [m.1, m.1]; exact zC1_mo d (fun w h2 e => ⟨fun _ => fin h2 e.2, fun z => absurd e.1 z⟩)⟩)⟩
  have c21 : zU K 892 (lws i u5 u6) [] h := q892 1 2 127 170 i u5 u6 h K ⟨R 1 (by omega) (by omega), by omega, by omega, R 2 (by omega) (by omega), by omega, by omega, t, zC1_mo (g22 x) (fun v h1 e => by
    obtain ⟨m, d⟩ := e
    exact ⟨R 1 (by omega) (by omega), by omega, by rw [m.2.1]; omega, R 2 (by omega) (by omega), by omega, by rw [m.2.1]; omega, m.2.2, by rw [m.1, m.1]; exact zC1_mo d (fun w h2 e => ⟨fun _ => fin h2 e.2, fun z => absurd e.1 z⟩)⟩)⟩
  have c22 : zU K 929 (lws i u5 u6) [] h := q929 1 2 127 170 i u5 u6 h K ⟨R 1 (by omega) (by omega), by omega, by omega, t, zC1_mo (g23 x) (fun v h1 e => by
    obtain ⟨m, d⟩ := e
    exact ⟨R 1 (by omega) (by omega), by omega, by rw [m.2.1]; omega, m.2.2, by rw [m.1]; exact zC1_mo d (fun w h2 e => ⟨fun _ => fin h2 e.2, fun z => absurd e.1 z⟩)⟩)⟩
  have c23 : zU K 954 (lws i u5 u6) [] h := q954 1 2 127 170 i u5 u6 h K ⟨R 1 (by omega) (by omega), by omega, by omega, R 2 (by omega) (by omega), by omega, by omega, t, zC1_mo (g24 x) (fun v h1 e => by
    obtain ⟨m, d⟩ := e
    exact ⟨R 1 (by omega) (by omega), by omega, by rw [m.2.1]; omega, R 2 (by omega) (by omega), by omega, by rw [m.2.1]; omega, m.2.2, by rw [m.1, m.1]; exact zC1_mo d (fun w h2 e => ⟨fun _ => fin h2 e.2, fun z => absurd e.1 z⟩)⟩)⟩
  have c24 : zU K 991 (lws i u5 u6) [] h := q991 1 2 127 170 i u5 u6 h K ⟨R 1 (by omega) (by omega), by omega, by omega, R 2 (by omega) (by omega), by omega, by omega, R 3 (by omega) (by omega), by omega, by omega, t, zC1_mo (g25 x) (fun v h1 e => by
    obtain ⟨m, d⟩ := e
    exact ⟨R 1 (by omega) (by omega), by omega, by rw [m.2.1]; omega, R 2 (by omega) (by omega), by omega, by rw [m.2.1]; omega, R 3 (by omega) (by omega), by omega, by rw [m.2.1]; omega, m.2.2, by rw [m.1, m.1, m.1]; exact zC1_mo d (fun w h2 e => ⟨fun _ => fin h2 e.2, fun z => absurd e.1 z⟩)⟩)⟩
  have c25 : zU K 1040 (lws i u5 u6) [] h := q1040 1 2 127 170 i u5 u6 h K ⟨t, zC1_mo (g26 x) (fun v h1 e => by
    obtain ⟨m, d⟩ := e
    exact ⟨m.2.2, zC1_mo d (fun w h2 e => ⟨fun _ => fin h2 e.2, fun z => absurd e.1 z⟩)⟩)⟩
  have c26 : zU K 1053 (lws i u5 u6) [] h := q1053 1 2 127 170 i u5 u6 h K ⟨R 1 (by omega) (by omega), by omega, by omega, t, zC1_mo (g27 x) (fun v h1 e => by
    obtain ⟨m, d⟩ := e
    exact ⟨R 1 (by omega) (by omega), by omega, by rw [m.2.1]; omega, m.2.2, by rw [m.1]; exact zC1_mo d (fun w h2 e => ⟨fun _ => fin h2 e.2, fun z => absurd e.1 z⟩)⟩)⟩
  have c27 : zU K 1078 (lws i u5 u6) [] h := q1078 1 2 127 170 i u5 u6 h K ⟨R 1 (by omega) (by omega), by omega, by omega, t, zC1_mo (g28 x) (fun v h1 e => by
    obtain ⟨m, d⟩ := e
    exact ⟨R 1 (by omega) (by omega), by omega, by rw [m.2.1]; omega, m.2.2, by rw [m.1]; exact zC1_mo d (fun w h2 e => ⟨fun _ => fin h2 e.2, fun z => absurd e.1 z⟩)⟩)⟩
  have c28 : zU K 1103 (lws i u5 u6) [] h := q1103 1 2 127 170 i u5 u6 h K ⟨R 1 (by omega) (by omega), by omega, by omega, t, zC1_mo (g29 x) (fun v h1 e => by
    obtain ⟨m, d⟩ := e
    exact ⟨R 1 (by omega) (by omega), by omega, by rw [m.2.1]; omega, m.2.2, by rw [m.1]; exact zC1_mo d (fun w h2 e => ⟨fun _ => fin h2 e.2, fun z => absurd e.1 z⟩)⟩)⟩
  have c29 : zU K 1128 (lws i u5 u6) [] h := fin h ⟨x, by omega, by omega, fun _ => rfl, rfl⟩
  exact q23 1 2 127 170 i u5 u6 h K ⟨by unfold inR; omega, fun z => absurd z (by omega), fun _ => ⟨i0, by omega, fun _ => c0, fun _ => ⟨fun _ => c1, fun _ => ⟨fun _ => c2, fun _ => ⟨fun _ => c3, fun _ => ⟨fun _ => c4, fun _ => ⟨fun _ => c5, fun _ => ⟨fun _ => c6, fun _ => ⟨fun _ => c7, fun _ => ⟨fun _ => c8, fun _ => ⟨fun _ => c9, fun _ => ⟨fun _ => c10, fun _ => ⟨fun _ => c11, fun _ => ⟨fun _ => c12, fun _ => ⟨fun _ => c13, fun _ => ⟨fun _ => c14, fun _ => ⟨fun _ => c15, fun _ => ⟨fun _ => c16, fun _ => ⟨fun _ => c17, fun _ => ⟨fun _ => c18, fun _ => ⟨fun _ => c19, fun _ => ⟨fun _ => c20, fun _ => ⟨fun _ => c21, fun _ => ⟨fun _ => c22, fun _ => ⟨fun _ => c23, fun _ => ⟨fun _ => c24, fun _ => ⟨fun _ => c25, fun _ => ⟨fun _ => c26, fun _ => ⟨fun _ => c27, fun _ => ⟨fun _ => c28, fun _ => c29⟩⟩⟩⟩⟩⟩⟩⟩⟩⟩⟩⟩⟩⟩⟩⟩⟩⟩⟩⟩⟩⟩⟩⟩⟩⟩⟩⟩⟩⟩
/-- what lies outside is changed, or made -/
theorem cia.z {h1 : zH} {a a2 : Nat} {S : qS} {rn : Int → Int} {rt : Int → Int → Int} {rs : Int → pS} {ty : Int → Int} {m c : Int} {pt : Int → Int → Int} {pn : Int → Int} (x : cia h a a2 S rn rt rs ty m c pt pn) (F : frY (fun b _ => b = 170) (fun _ _ => False) h h1) : cia h1 a a2 S rn rt rs ty m c pt pn := by
  obtain ⟨xS, xR, xT, xP, xK, xF⟩ := x
  have w := xS.1.2.2.2.2.2.2
  have l := xF.1
  refine ⟨?_, ?_, ?_, ?_, ?_, ?_⟩
  · exact xS.fy F l (fun b k b0 b1 => by omega) ⟨fun q => q, fun q => q⟩ (fun b k q => by unfold nSm at q; omega)
  · exact xR.fy F xF (fun b k b0 => by omega) (fun k q => q) (fun b k q => by unfold nRm at q; omega)
  · exact xT.fy F l (fun k => by omega) ⟨by omega, fun k => by omega⟩
  · exact xP.fy F l (fun b k q => by unfold xpA at q; omega) (fun k q => q) (fun b k q => by unfold mpA at q; omega)
  · exact xK.fy F xF (fun b k b0 b1 => by omega) (fun b k b0 => by omega) (fun k => ⟨fun q => q, fun q => q⟩) (fun k => by omega)
  · exact xF.fy F (fun k => ⟨fun q => q, fun q => q⟩)
theorem frY_o {v : Int} : frY (fun b _ => b = 170) (fun _ _ => False) h (sI h 170 0 v) := (frX.st (P := fun b _ => b = 170) (R := fun _ _ => False) frX.rf rfl).y
theorem frY_n {t n : Nat} : frY (fun b _ => b = 170) (fun _ _ => False) h (nw h t n) := ⟨fun b k l _ => by rw [gN, if_neg (by omega)], fun b k l _ => by rw [gRN, if_neg (by omega)], fun b l => ⟨by rw [tgN, if_neg (by omega)], by rw [lnN, if_neg (by omega)]⟩, by rw [nxN]; omega⟩
/-- behind the call of node: it gave an answer -/
theorem turn0 {a a2 : Nat} {S : qS} {rn : Int → Int} {rt : Int → Int → Int} {rs : Int → pS} {ty : Int → Int} {m c : Int} {pt : Int → Int → Int} {pn : Int → Int} (x : cia h a a2 S rn rt rs ty m c pt pn) {v : Int} (i0 : 0 ≤ i) (i1 : i + 5 ≤ Int.ofNat (ln h 1)) (l : Int.ofNat (ln h 1) ≤ 2560) (e : gI h 170 0 = v) (hv : (0 ≤ gI h 1 (i + 1) ∧ gI h 1 (i + 1) < qN S) ∧ v = aNod (qT S) (gI h 1 (i + 1)) (gI h 1 (i + 2))) (k1 : ∀ h2 w6, ciX h h2 → K 23 (lws (i + 5) (vI 0) w6) [] h2) : zU K 286 (lws i u5 u6) [vI 0] h := by
  have R : ∀ j, 0 ≤ j → j ≤ 5 → inR (i + j) := fun j j0 j1 => by unfold inR; omega
  have xF := x.2.2.2.2.2
  have l1 := xF.1
  have X := x.r0
  have t7 : zty 111 127 (sI h 127 0 0) := xF.2.1.2.2
  have t1 : zty 243 170 (sI h 127 0 0) := xF.2.1.1
  have t2 := t1
  rw [zty_iff rfl] at t2
  have t3 : zty 143 170 (sI h 127 0 0) := by rw [zty_iff rfl]; exact ⟨t2.1, t2.2.1, t2.2.2.1, Or.inl rfl⟩
  have l3 : ln (sI h 127 0 0) 170 = 1 := by
    rcases t2.2.2.2 with z | z
    · exact absurd z (by decide)
    · exact z
  have e2 : gI (sI h 127 0 0) 170 0 = v := by rw [gS, if_neg (by omega)]; exact e
  refine q286 1 2 127 170 i u5 u6 0 h K ⟨R 1 (by omega) (by omega), by omega, by omega, R 2 (by omega) (by omega), by omega, by omega, xF.2.1.2.2, s197 x.1.2.1 x.1.2.2.2 (fun _ => ?_) (fun z => absurd hv.1 z)⟩
  refine ⟨t7, s140 ⟨fun _ => ⟨fun z => absurd rfl z, fun _ => ⟨t3, by omega, ?_, fun _ => ?_, fun z => absurd ?_ z⟩⟩, fun z => absurd ?_ z⟩⟩
  · rw [l3]; decide
  · exact q1128 1 2 127 170 i (vI 0) _ _ K ⟨R 5 (by omega) (by omega), zU_k (k1 _ _ X)⟩
  · rw [e2, hv.2]; unfold iCmp; rw [if_neg (by omega), if_pos rfl]
  · rw [gS1]
/-- it threw -/
theorem turn1 {a a2 : Nat} {S : qS} {rn : Int → Int} {rt : Int → Int → Int} {rs : Int → pS} {ty : Int → Int} {m c : Int} {pt : Int → Int → Int} {pn : Int → Int} (x : cia h a a2 S rn rt rs ty m c pt pn) (i0 : 0 ≤ i) (i1 : i + 5 ≤ Int.ofNat (ln h 1)) (l : Int.ofNat (ln h 1) ≤ 2560) (hv : ¬ (0 ≤ gI h 1 (i + 1) ∧ gI h 1 (i + 1) < qN S)) (k1 : ∀ h2 w6, ciX h h2 → K 23 (lws (i + 5) (vI 1) w6) [] h2) : zU K 286 (lws i u5 u6) [vI 1] h := by
  have R : ∀ j, 0 ≤ j → j ≤ 5 → inR (i + j) := fun j j0 j1 => by unfold inR; omega
  have xF := x.2.2.2.2.2
  have X : ciX h (sI h 127 0 1) := x.ro (P := fun _ _ => False) (R := fun _ _ => False) frX.rf (fun _ _ q => q.elim) (fun _ _ q => q.elim) (Q := fun b k => b = 127 ∧ k = 0) (frP.rf.st ⟨rfl, rfl⟩) (fun b k q => by unfold mSc; omega)
  have t7 : zty 111 127 (sI h 127 0 1) := xF.2.1.2.2
  refine q286 1 2 127 170 i u5 u6 1 h K ⟨R 1 (by omega) (by omega), by omega, by omega, R 2 (by omega) (by omega), by omega, by omega, xF.2.1.2.2, s197 x.1.2.1 x.1.2.2.2 (fun z => absurd z hv) (fun _ => ?_)⟩
  refine ⟨t7, s140 ⟨fun _ => ⟨fun _ => ?_, fun z => absurd (by omega) z⟩, fun z => absurd ?_ z⟩⟩
  · exact q1128 1 2 127 170 i (vI 1) _ _ K ⟨R 5 (by omega) (by omega), zU_k (k1 _ _ X)⟩
  · rw [gS1]
end TU
