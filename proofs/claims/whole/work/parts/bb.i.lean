/-! ===== the law: the dispatch, the loop ===== -/
def jAll (P : am_R → Prop) : List am_R → Prop
  | [] => True
  | a :: l => P a ∧ jAll P l
section Li
variable {B a0 N x u k1 k2 j n : Nat} {g : Nat → Int32} {V Q : Nat → Nat} {s : am_S} {P : am_R → Prop} {d : am_R} {vi lo : Int} {es : List am_R} {y : Int32}
theorem gd_all (hd : P d) : ∀ (es : List am_R) (i : Nat), jAll P es → P (es.getD i d)
  | [], _, _ => hd
  | _ :: _, 0, h => h.1
  | _ :: es, i + 1, h => gd_all hd es i h.2
theorem sw_all (hd : P d) (h : jAll P es) : P (sw vi lo es d) := by
  unfold sw
  split
  · exact hd
  · exact gd_all hd es _ h
theorem JL.up (hJ : JL B a0 N g V Q s x u k1 k2) (hu : u + 18 < 2 ^ 24) : JL B a0 N g V Q s x (u + 9) (k1 + 218) (k2 + 1612) := by
  obtain ⟨nb, sb, vb, C, n, D, l, F, T, W, v, G, f, σ, τ, w⟩ := hJ
  have w5 := w.2.2.2.2.1
  exact w.go (cw_fr fr_rf) w.2.1.ss w.2.1.p w.ar ⟨so_rfl, v, G, w5.1, w5.2.1, KM.rf⟩ w.pk.id hu
theorem br_3221 (hJ : JL B a0 N g V Q s x u k1 k2) (hu : u + 18 < 2 ^ 24) : JN B a0 N g V Q x u k1 k2 j (jR B 3221 a0 x (nI j) s) := ⟨s, dc_L_law_3221 a0 x (x + 492) (x + 504) (nI j) s, hJ.up hu⟩
theorem JL.re (hJ : JL B a0 N g V Q s x u k1 k2) : RE B a0 N g V Q s := by
  obtain ⟨nb, sb, vb, C, n, D, l, F, T, W, v, G, f, σ, τ, w⟩ := hJ
  exact w.1
theorem jn_all (hJ : JL B a0 N g V Q s x u k1 k2) (hj : j + 4 < N) (hN : N < 2 ^ 31) (hu0 : 4600 ≤ u) (hu : u + 18 < 2 ^ 24) : JN B a0 N g V Q x u k1 k2 j (sw vi lo [jR B 272 a0 x (nI j) s, jR B 329 a0 x (nI j) s, jR B 342 a0 x (nI j) s, jR B 355 a0 x (nI j) s, jR B 368 a0 x (nI j) s, jR B 424 a0 x (nI j) s, jR B 492 a0 x (nI j) s, jR B 560 a0 x (nI j) s, jR B 640 a0 x (nI j) s, jR B 732 a0 x (nI j) s, jR B 811 a0 x (nI j) s, jR B 879 a0 x (nI j) s, jR B 935 a0 x (nI j) s, jR B 1003 a0 x (nI j) s, jR B 1071 a0 x (nI j) s, jR B 1127 a0 x (nI j) s, jR B 1140 a0 x (nI j) s, jR B 1181 a0 x (nI j) s, jR B 1249 a0 x (nI j) s, jR B 1329 a0 x (nI j) s, jR B 1409 a0 x (nI j) s, jR B 1489 a0 x (nI j) s, jR B 1557 a0 x (nI j) s, jR B 1613 a0 x (nI j) s, jR B 1669 a0 x (nI j) s, jR B 1737 a0 x (nI j) s, jR B 1829 a0 x (nI j) s, jR B 1897 a0 x (nI j) s, jR B 1953 a0 x (nI j) s, jR B 2021 a0 x (nI j) s, jR B 2077 a0 x (nI j) s, jR B 2145 a0 x (nI j) s, jR B 2201 a0 x (nI j) s, jR B 2214 a0 x (nI j) s, jR B 2270 a0 x (nI j) s, jR B 2283 a0 x (nI j) s, jR B 2339 a0 x (nI j) s, jR B 2382 a0 x (nI j) s, jR B 2438 a0 x (nI j) s, jR B 2506 a0 x (nI j) s, jR B 2531 a0 x (nI j) s, jR B 2556 a0 x (nI j) s, jR B 2612 a0 x (nI j) s, jR B 2668 a0 x (nI j) s, jR B 2724 a0 x (nI j) s, jR B 2816 a0 x (nI j) s, jR B 2896 a0 x (nI j) s, jR B 2976 a0 x (nI j) s, jR B 2989 a0 x (nI j) s, jR B 3002 a0 x (nI j) s, jR B 3015 a0 x (nI j) s, jR B 3028 a0 x (nI j) s, jR B 3084 a0 x (nI j) s, jR B 3109 a0 x (nI j) s, jR B 3165 a0 x (nI j) s] (jR B 3221 a0 x (nI j) s)) := sw_all (br_3221 hJ hu) ⟨br_272 hJ hj hN hu, br_329 hJ hu0 hu, br_342 hJ hu, br_355 hJ hu, br_368 hJ hj hN hu, br_424 hJ hj hN hu, br_492 hJ hj hN hu, br_560 hJ hj hN hu, br_640 hJ hj hN hu, br_732 hJ hj hN hu, br_811 hJ hj hN hu, br_879 hJ hj hN hu, br_935 hJ hj hN hu, br_1003 hJ hj hN hu, br_1071 hJ hj hN hu, br_1127 hJ hj hN hu, br_1140 hJ hu, br_1181 hJ hj hN hu, br_1249 hJ hj hN hu, br_1329 hJ hj hN hu, br_1409 hJ hj hN hu, br_1489 hJ hj hN hu, br_1557 hJ hj hN hu, br_1613 hJ hj hN hu, br_1669 hJ hj hN hu, br_1737 hJ hj hN hu, br_1829 hJ hj hN hu, br_1897 hJ hj hN hu, br_1953 hJ hj hN hu, br_2021 hJ hj hN hu, br_2077 hJ hj hN hu, br_2145 hJ hj hN hu, br_2201 hJ hj hN hu, br_2214 hJ hj hN hu, br_2270 hJ hj hN hu, br_2283 hJ hj hN hu, br_2339 hJ hu, br_2382 hJ hj hN hu, br_2438 hJ hj hN hu, br_2506 hJ hj hN hu, br_2531 hJ hj hN hu, br_2556 hJ hj hN hu, br_2612 hJ hj hN hu, br_2668 hJ hj hN hu, br_2724 hJ hj hN hu, br_2816 hJ hj hN hu, br_2896 hJ hj hN hu, br_2976 hJ hj hN hu, br_2989 hJ hj hN hu, br_3002 hJ hj hN hu, br_3015 hJ hj hN hu, br_3028 hJ hj hN hu, br_3084 hJ hj hN hu, br_3109 hJ hj hN hu, br_3165 hJ hj hN hu, trivial⟩
theorem law_it (hJ : JL B a0 N g V Q s x u k1 k2) (hj : j + 4 < N) (hN : N < 2 ^ 31) (hu0 : 4600 ≤ u) (hu : u + 18 < 2 ^ 24) : JN B a0 N g V Q x u k1 k2 j (jR B 23 a0 x (nI j) s) := by
  have re := hJ.re
  have h5 : ¬ (Int32.ofNat N) - (5 : Int32) < nI j := by
    show ¬ nI N - nI 5 < nI j
    rw [nI_2 (by omega)]
    exact nI_nlt (show j ≤ N - 5 by omega) (by omega)
  unfold jR
  rw [dc_L_law_23, al_o re.2.2.2.2.2.2, eK_s, if_neg h5, aI_o re.2.2.2.2.2.2 (show j < N by omega) hN, eI_s]
  exact jn_all hJ hj hN hu0 hu
theorem law_end (re : RE B a0 N g V Q s) (hj : N < j + 5) (hj2 : j < 2 ^ 31) (hN : N < 2 ^ 31) : jR B 23 a0 x (nI j) s = some (.inl (some (.int (1 : Int32))), s) := by
  have h5 : (Int32.ofNat N) - (5 : Int32) < nI j := by
    by_cases h5 : 5 ≤ N
    · show nI N - nI 5 < nI j
      rw [nI_2 h5]
      exact nI_lt (by omega) (by omega)
    · have hd : ∀ n : Nat, n < 5 → (Int32.ofNat n - (5 : Int32)).toInt < 0 := by decide
      refine Int32.lt_iff_toInt_lt.mpr ?_
      have e1 := hd N (by omega)
      have e2 : ¬ (nI j).toInt < (0 : Int32).toInt := fun e => nI_pos hj2 (Int32.lt_iff_toInt_lt.mpr e)
      have e3 : (0 : Int32).toInt = 0 := rfl
      omega
  unfold jR
  rw [dc_L_law_23, al_o re.2.2.2.2.2.2, eK_s, if_pos h5]
theorem law_lp (hN : N < 2 ^ 30) : ∀ K j s u k1 k2, N < j + 5 + 5 * K → j ≤ N → JL B a0 N g V Q s x u k1 k2 → 4600 ≤ u → u + 9 * K + 18 < 2 ^ 24 → ∃ s' K', K' ≤ K ∧ jR B 23 a0 x (nI j) s = some (.inl (some (.int (1 : Int32))), s') ∧ JL B a0 N g V Q s' x (u + 9 * K') (k1 + 218 * K') (k2 + 1612 * K')
  | 0, j, s, u, k1, k2, h1, h2, hJ, hu0, hu => ⟨s, 0, Nat.le_refl _, law_end hJ.re (by omega) (by omega) (by omega), hJ⟩
  | K + 1, j, s, u, k1, k2, h1, h2, hJ, hu0, hu => by
    by_cases hj : N < j + 5
    · exact ⟨s, 0, Nat.zero_le _, law_end hJ.re hj (by omega) (by omega), hJ⟩
    · obtain ⟨s1, e1, J1⟩ := law_it hJ (show j + 4 < N by omega) (by omega) hu0 (by omega)
      have e5 : nI j + (5 : Int32) = nI (j + 5) := nI_add _ _
      rw [e5] at e1
      obtain ⟨s2, K', hK, e2, J2⟩ := law_lp hN K (j + 5) s1 (u + 9) (k1 + 218) (k2 + 1612) (by omega) (by omega) J1 (by omega) (by omega)
      refine ⟨s2, K' + 1, by omega, e1.trans e2, ?_⟩
      have a1 : u + 9 + 9 * K' = u + 9 * (K' + 1) := by omega
      have a2 : k1 + 218 + 218 * K' = k1 + 218 * (K' + 1) := by omega
      have a3 : k2 + 1612 + 1612 * K' = k2 + 1612 * (K' + 1) := by omega
      rw [a1, a2, a3] at J2
      exact J2
end Li
