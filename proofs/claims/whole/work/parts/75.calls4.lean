/-! Building: vertex, edge, start; the inputs: advance, close. -/
def up {α : Type} (f : Nat → α) (n : Nat) (x : α) : Nat → α := fun v => if v = n then x else f v
theorem up_s {α : Type} (f : Nat → α) (n : Nat) (x : α) : up f n x n = x := if_pos rfl
theorem up_n {α : Type} {f : Nat → α} {n v : Nat} {x : α} (h : v ≠ n) : up f n x v = f v := if_neg h
section SIM
variable {xs : List Int32} {σ τ : wd_S} {b : Bool} {nv ne : Nat} {kd dp wk fr to cn : Nat → Nat} {vl : Nat → Nat → Int32} {me : Nat → Nat → Nat} {mt : Nat → Nat → Nat × Nat} {ee : Nat → Nat} {op : Nat → Bool} {tt : Nat → Int32} {rc : Nat → Nat} {re : Nat → Nat → Nat} {rt : Nat → Nat → Nat × Nat} {rs : Nat → Nat → Int32} {q : Nat} {qg qe : Nat → Nat} {qt : Nat → Nat × Nat} {qs : Nat → Int32} {dl fi se : Int32}
theorem avF_c' {n c : Nat} {k d w : Int32} (h : c ≠ 2) (h2 : c ≠ 6 + 3 * n) : avF σ n k d w c = σ c := by
  unfold avF beF
  rw [u2_row h, u2_row h2, u2_row h2, u2_row h2, u2_row h2, u2_row h2, u2_row h2]
theorem mvF_c' {n c : Nat} {k d w : Int32} (h : c ≠ 66 ∧ c ≠ 67 ∧ c ≠ 68 ∧ c ≠ 69 ∧ c ≠ 71) : mvF σ n k d w c = σ c := by
  unfold mvF
  rw [u2_row h.1, u2_row h.2.2.2.2, u2_row h.2.2.2.1, u2_row h.2.2.1, u2_row h.2.1]
theorem vx_ex {k d w : Int32} (h : vxB b k d w = true) : b = true ∧ ∃ kk dd ww, k = nI kk ∧ d = nI dd ∧ w = nI ww ∧ vOK kk dd ∧ ww ≤ 3 := by
  unfold vxB fitB at h
  rw [Bool.and_eq_true, Bool.and_eq_true, Bool.and_eq_true, decide_eq_true_iff, decide_eq_true_iff] at h
  obtain ⟨hb, hf, hw0, hw3⟩ := h
  have nn : ∀ {x : Int32} {m : Nat}, m ≤ 10 → 0 ≤ x → x ≤ nI m → ∃ j, j ≤ m ∧ x = nI j := by
    intro x m hm h0 h1
    obtain ⟨j, hj, rfl⟩ := nI_of (x := x) (fun z => by
      rw [Int32.lt_iff_toInt_lt] at z
      rw [Int32.le_iff_toInt_le] at h0
      omega)
    refine ⟨j, ?_, rfl⟩
    rcases Nat.lt_or_ge m j with z | z
    · exact absurd h1 (nI_ge z (by omega))
    · exact z
  obtain ⟨ww, hww, rfl⟩ := nn (by omega) hw0 hw3
  refine ⟨hb, ?_⟩
  rw [Bool.or_eq_true, Bool.or_eq_true] at hf
  rcases hf with (hf | hf) | hf
  · rw [Bool.and_eq_true, decide_eq_true_iff, decide_eq_true_iff] at hf
    exact ⟨0, 0, ww, hf.1, hf.2, rfl, Or.inl ⟨rfl, rfl⟩, hww⟩
  · rw [Bool.and_eq_true, Bool.and_eq_true, decide_eq_true_iff, decide_eq_true_iff, decide_eq_true_iff] at hf
    obtain ⟨dd, h1, h2⟩ := nn (by omega) hf.1.2 hf.2
    exact ⟨1, dd, ww, hf.1.1, h2, rfl, Or.inr (Or.inl ⟨rfl, h1⟩), hww⟩
  · rw [Bool.and_eq_true, Bool.and_eq_true, Bool.or_eq_true, Bool.or_eq_true, decide_eq_true_iff, decide_eq_true_iff, decide_eq_true_iff, decide_eq_true_iff, decide_eq_true_iff] at hf
    obtain ⟨⟨hk, hd1⟩, hd2⟩ := hf
    obtain ⟨dd, h1, rfl⟩ := nn (by omega) (by
      rw [Int32.le_iff_toInt_le] at hd1 ⊢
      have : (nI 1).toInt = 1 := by decide
      have e0 : (0 : Int32).toInt = 0 := by decide
      omega) hd2
    have h2 : 1 ≤ dd := by
      rcases Nat.lt_or_ge dd 1 with z | z
      · exact absurd hd1 (nI_ge z (by omega))
      · exact z
    rcases hk with (rfl | rfl) | rfl
    · exact ⟨2, dd, ww, rfl, rfl, rfl, Or.inr (Or.inr ⟨by omega, by omega, h2, h1⟩), hww⟩
    · exact ⟨3, dd, ww, rfl, rfl, rfl, Or.inr (Or.inr ⟨by omega, by omega, h2, h1⟩), hww⟩
    · exact ⟨4, dd, ww, rfl, rfl, rfl, Or.inr (Or.inr ⟨by omega, by omega, h2, h1⟩), hww⟩
theorem k_vertex (x y z : Int32) (h : Sim σ) : cmpS Sim xs 1 59 [.int x, .int y, .int z] σ := by
  obtain ⟨b, nv, ne, kd, dp, wk, fr, to, cn, vl, me, mt, ee, op, tt, rc, re, rt, rs, q, qg, qe, qt, qs, dl, fi, se, ⟨hG, c1, m1⟩, ⟨c2, m2⟩, ⟨c3, m3⟩, ⟨c4, m4⟩, ⟨hM, c5, m5⟩, ⟨hI, c6, m6⟩, hR, c7, m7⟩ := id h
  have hn8 := hG.1
  have he12 := hG.2.1
  have hc := r_vertex (xs := xs) c1.1 hn8 c1.2.2 x y z
  by_cases hv : vxB b x y z = true ∧ nv < 8
  · rw [if_pos hv] at hc
    have m1' : mS (avF σ nv x y z) b nv ne := m1.of (by rw [avF_c' (by omega) (by omega)]) (by rw [avF_c' (by omega) (by omega)]) (by rw [avF_c' (by omega) (by omega)])
    have hm := m_vertex (xs := xs) m1'.1 hn8 m1'.2.2 x y z
    rw [if_pos hv] at hm
    refine cmp_ev hc hm ?_
    obtain ⟨hvx, hv8⟩ := hv
    obtain ⟨hbt, kk, dd, ww, rfl, rfl, rfl, hok, hww⟩ := vx_ex hvx
    have hkk : kk ≤ 4 ∧ dd ≤ 2 := by unfold vOK at hok; omega
    have hr : ∀ c, c ≠ 2 → c ≠ 6 + 3 * nv → c < 66 → mvF (avF σ nv (nI kk) (nI dd) (nI ww)) nv (nI kk) (nI dd) (nI ww) c = σ c := fun c a1 a2 a3 => by rw [mvF_c' (by omega), avF_c' a1 a2]
    have hr2 : ∀ c, 66 ≤ c → c ≠ 66 ∧ c ≠ 67 ∧ c ≠ 68 ∧ c ≠ 69 ∧ c ≠ 71 → mvF (avF σ nv (nI kk) (nI dd) (nI ww)) nv (nI kk) (nI dd) (nI ww) c = σ c := fun c a1 a2 => by rw [mvF_c' a2, avF_c' (by omega) (by omega)]
    have f2 : mvF (avF σ nv (nI kk) (nI dd) (nI ww)) nv (nI kk) (nI dd) (nI ww) 2 = avF σ nv (nI kk) (nI dd) (nI ww) 2 := mvF_c' (by omega)
    have fv : mvF (avF σ nv (nI kk) (nI dd) (nI ww)) nv (nI kk) (nI dd) (nI ww) (6 + 3 * nv) = avF σ nv (nI kk) (nI dd) (nI ww) (6 + 3 * nv) := mvF_c' (by omega)
    have f66 : ∀ k, k ≠ 1 → mvF (avF σ nv (nI kk) (nI dd) (nI ww)) nv (nI kk) (nI dd) (nI ww) 66 k = σ 66 k := fun k hk => by
      unfold mvF
      rw [u2_k hk, u2_c (by omega), u2_c (by omega), u2_c (by omega), u2_c (by omega), avF_c' (by omega) (by omega)]
    have g1 : ∀ c k, (c = 67 ∨ c = 68 ∨ c = 69 ∨ c = 71) → k ≠ nv → mvF (avF σ nv (nI kk) (nI dd) (nI ww)) nv (nI kk) (nI dd) (nI ww) c k = σ c k := fun c k hc hk => by
      unfold mvF
      rw [u2_c (by omega), u2_ne (Or.inr hk), u2_ne (Or.inr hk), u2_ne (Or.inr hk), u2_ne (Or.inr hk), avF_c' (by omega) (by omega)]
    have g67 : mvF (avF σ nv (nI kk) (nI dd) (nI ww)) nv (nI kk) (nI dd) (nI ww) 67 nv = nI kk := by
      unfold mvF
      rw [u2_c (by omega), u2_c (by omega), u2_c (by omega), u2_c (by omega), u2_same]
    have g68 : mvF (avF σ nv (nI kk) (nI dd) (nI ww)) nv (nI kk) (nI dd) (nI ww) 68 nv = nI dd := by
      unfold mvF
      rw [u2_c (by omega), u2_c (by omega), u2_c (by omega), u2_same]
    have g69 : mvF (avF σ nv (nI kk) (nI dd) (nI ww)) nv (nI kk) (nI dd) (nI ww) 69 nv = nI ww := by
      unfold mvF
      rw [u2_c (by omega), u2_c (by omega), u2_same]
    have g71 : mvF (avF σ nv (nI kk) (nI dd) (nI ww)) nv (nI kk) (nI dd) (nI ww) 71 nv = (if nI kk = 0 then nI 1 else nI 0) := by
      unfold mvF
      rw [u2_c (by omega), u2_same]
    have g661 : mvF (avF σ nv (nI kk) (nI dd) (nI ww)) nv (nI kk) (nI dd) (nI ww) 66 1 = nI (nv + 1) := by
      unfold mvF
      rw [u2_same]
    have a22 : avF σ nv (nI kk) (nI dd) (nI ww) 2 2 = nI (nv + 1) := by
      unfold avF
      rw [u2_same]
    have a23 : avF σ nv (nI kk) (nI dd) (nI ww) 2 3 = σ 2 3 := by
      unfold avF beF
      rw [u2_k (by omega), u2_c (by omega), u2_c (by omega), u2_c (by omega), u2_c (by omega), u2_c (by omega), u2_c (by omega)]
    have ao : ∀ k, k = 5 ∨ k = 6 ∨ k = 7 ∨ k = 9 → avF σ nv (nI kk) (nI dd) (nI ww) (6 + 3 * nv) k = nI 0 := fun k hk => by
      obtain ⟨-, -, z5, z6, z7, z9⟩ := c3.2 nv (Nat.le_refl _) hv8
      unfold avF beF
      rw [u2_c (by omega), u2_k (by omega), u2_k (by omega), u2_k (by omega), u2_k (by omega), u2_k (by omega), u2_k (by omega)]
      rcases hk with rfl | rfl | rfl | rfl
      · exact z5
      · exact z6
      · exact z7
      · exact z9
    have a0 : avF σ nv (nI kk) (nI dd) (nI ww) (6 + 3 * nv) 0 = nI kk := by
      unfold avF beF
      rw [u2_c (by omega), u2_k (by omega), u2_k (by omega), u2_k (by omega), u2_k (by omega), u2_k (by omega), u2_same]
    have a1 : avF σ nv (nI kk) (nI dd) (nI ww) (6 + 3 * nv) 1 = nI dd := by
      unfold avF beF
      rw [u2_c (by omega), u2_k (by omega), u2_k (by omega), u2_k (by omega), u2_k (by omega), u2_same]
    have a2 : avF σ nv (nI kk) (nI dd) (nI ww) (6 + 3 * nv) 2 = nI (if kk = 1 then ww else 0) := by
      unfold avF beF
      rw [u2_c (by omega), u2_k (by omega), u2_k (by omega), u2_k (by omega), u2_same]
      by_cases hk1 : kk = 1
      · rw [if_pos hk1, if_pos (by rw [hk1])]
      · rw [if_neg hk1, if_neg fun z => hk1 ((nI_eq (by omega) (by omega)).mp z)]
    have a3 : avF σ nv (nI kk) (nI dd) (nI ww) (6 + 3 * nv) 3 = stF kk dd := by
      unfold avF beF stF
      rw [u2_c (by omega), u2_k (by omega), u2_k (by omega), u2_same]
      by_cases hk1 : kk = 3
      · rw [if_pos hk1, if_pos (by rw [hk1])]
      · rw [if_neg hk1, if_neg fun z => hk1 ((nI_eq (by omega) (by omega)).mp z)]
    have a4 : avF σ nv (nI kk) (nI dd) (nI ww) (6 + 3 * nv) 4 = adF kk dd := by
      unfold avF beF adF
      rw [u2_c (by omega), u2_k (by omega), u2_same]
      by_cases hk1 : kk = 4
      · rw [if_pos hk1, if_pos (by rw [hk1])]
      · rw [if_neg hk1, if_neg fun z => hk1 ((nI_eq (by omega) (by omega)).mp z)]
    have a8 : avF σ nv (nI kk) (nI dd) (nI ww) (6 + 3 * nv) 8 = bI (decide (kk = 0)) := by
      unfold avF beF
      rw [u2_c (by omega), u2_same]
      by_cases hk1 : kk = 0
      · rw [decide_eq_true hk1, if_pos (by rw [hk1])]
        rfl
      · rw [decide_eq_false hk1, if_neg fun z => hk1 ((nI_eq (by omega) (by omega)).mp z)]
        rfl
    have b8 : (if nI kk = 0 then nI 1 else nI 0) = bI (decide (kk = 0)) := by
      by_cases hk1 : kk = 0
      · rw [decide_eq_true hk1, if_pos (by rw [hk1]; rfl)]
        rfl
      · rw [decide_eq_false hk1, if_neg (show ¬ nI kk = (0 : Int32) from fun z => hk1 ((nI_eq (b := 0) (by omega) (by omega)).mp z))]
        rfl
    rw [b8] at g71
    generalize mvF (avF σ nv (nI kk) (nI dd) (nI ww)) nv (nI kk) (nI dd) (nI ww) = ρ at *
    have hdi : ∀ v, v < nv → gDi (nv + 1) (up kd nv kk) (up dp nv dd) v = gDi nv kd dp v := fun v hv => by
      unfold gDi
      rw [if_pos hv, if_pos (by omega), up_n (by omega), up_n (by omega)]
    have hdo : ∀ v, v < nv → gDo (nv + 1) (up kd nv kk) (up dp nv dd) v = gDo nv kd dp v := fun v hv => by
      unfold gDo
      rw [if_pos hv, if_pos (by omega), up_n (by omega), up_n (by omega)]
    refine ⟨b, nv + 1, ne, up kd nv kk, up dp nv dd, up wk nv ww, fr, to, cn, vl, me, mt, up ee nv 0, up op nv (decide (kk = 0)), up tt nv (nI 0), up rc nv 0, re, rt, rs, q, qg, qe, qt, qs, dl, fi, se, ⟨⟨hv8, he12, fun v hv => ?_, fun e he => ?_⟩, ⟨by rw [f2]; exact a22, by rw [f2, a23]; exact c1.2.1, by rw [hr 1 (by omega) (by omega) (by omega)]; exact c1.2.2⟩, ⟨g661, by rw [f66 8 (by omega)]; exact m1.2.1, by rw [f66 0 (by omega)]; exact m1.2.2⟩⟩, ⟨c2.of (by rw [hr 1 (by omega) (by omega) (by omega)]) (by rw [hr 1 (by omega) (by omega) (by omega)]) (by rw [hr 1 (by omega) (by omega) (by omega)]), m2.of (f66 _ (by omega)) (f66 _ (by omega)) (f66 _ (by omega))⟩, ⟨⟨fun v hv => ?_, fun v h1 h2 => ?_⟩, ⟨fun v hv => ?_, fun v h1 h2 => ?_⟩⟩, ⟨⟨fun e he => ?_, fun v hv e he => ?_, fun e h1 h2 => ?_⟩, m4.of (hr2 _ (by omega) (by omega)) (hr2 _ (by omega) (by omega)) (fun e _ _ => by rw [hr2 75 (by omega) (by omega)])⟩, ⟨fun e he => ?_, c5.of (fun e he => ⟨by rw [hr _ (by omega) (by omega) (by omega)], hr _ (by omega) (by omega) (by omega), hr _ (by omega) (by omega) (by omega)⟩), m5.of (hr2 _ (by omega) (by omega)) (hr2 _ (by omega) (by omega)) (hr2 _ (by omega) (by omega))⟩, ⟨fun v hv => ?_, fun v hv => ?_, fun v hv => ?_⟩, ⟨fun v hv => ?_, fun r hr' => ?_, fun v hv k hk => ?_, hR.2.2.2⟩, fun v hv => ?_, m7.of (f66 _ (by omega)) (hr2 _ (by omega) (by omega)) (hr2 _ (by omega) (by omega)) (hr2 _ (by omega) (by omega))⟩
    · by_cases hvn : v = nv
      · subst hvn
        rw [up_s, up_s, up_s]
        exact ⟨hok, hww⟩
      · rw [up_n hvn, up_n hvn, up_n hvn]
        exact hG.2.2.1 v (by omega)
    · obtain ⟨e1, e2, e3⟩ := hG.2.2.2 e he
      exact ⟨by omega, by omega, by rw [hdo _ e1, hdi _ e2]; exact e3⟩
    · by_cases hvn : v = nv
      · subst hvn
        rw [up_s, up_s, up_s, fv]
        exact ⟨a0, a1, a2, a3, a4⟩
      · rw [up_n hvn, up_n hvn, up_n hvn, hr _ (by omega) (by omega) (by omega)]
        exact c3.1 v (by omega)
    · rw [hr _ (by omega) (by omega) (by omega)]
      exact c3.2 v (by omega) h2
    · by_cases hvn : v = nv
      · subst hvn
        rw [up_s, up_s, up_s]
        exact ⟨g67, g68, g69⟩
      · rw [up_n hvn, up_n hvn, up_n hvn, g1 67 v (by omega) hvn, g1 68 v (by omega) hvn, g1 69 v (by omega) hvn]
        exact m3.1 v (by omega)
    · rw [g1 67 v (by omega) (by omega), hr2 70 (by omega) (by omega), hr2 72 (by omega) (by omega)]
      exact m3.2 v (by omega) h2
    · rw [hr _ (by omega) (by omega) (by omega)]
      exact c4.1 e he
    · by_cases hvn : v = nv
      · subst hvn
        rw [fv, ao 5 (by omega), tB_0]
        by_cases hen : e < ne
        · have := (hG.2.2.2 e hen).1
          rw [decide_eq_false (show ¬ fr e = v by omega), Bool.and_false]
        · rw [decide_eq_false hen, Bool.false_and]
      · rw [hr _ (by omega) (by omega) (by omega)]
        exact c4.2.1 v (by omega) e he
    · rw [hr _ (by omega) (by omega) (by omega)]
      exact c4.2.2 e h1 h2
    · obtain ⟨e1, e2⟩ := hM e he
      refine ⟨e1, fun k hk => ?_⟩
      rw [hdi _ (hG.2.2.2 e he).2.1]
      exact e2 k hk
    · by_cases hvn : v = nv
      · subst hvn
        rw [up_s, up_s, up_s]
        exact ⟨by omega, fun z => of_decide_eq_true z⟩
      · rw [up_n hvn, up_n hvn, up_n hvn]
        exact hI v (by omega)
    · by_cases hvn : v = nv
      · subst hvn
        rw [up_s, up_s, up_s, fv]
        exact ⟨ao 7 (by omega), a8, ao 6 (by omega)⟩
      · rw [up_n hvn, up_n hvn, up_n hvn, hr _ (by omega) (by omega) (by omega)]
        exact c6 v (by omega)
    · by_cases hvn : v = nv
      · subst hvn
        obtain ⟨-, z70, z72⟩ := m3.2 v (Nat.le_refl _) hv8
        rw [up_s, up_s, up_s, hr2 70 (by omega) (by omega), hr2 72 (by omega) (by omega)]
        exact ⟨z70, g71, z72⟩
      · rw [up_n hvn, up_n hvn, up_n hvn, hr2 70 (by omega) (by omega), hr2 72 (by omega) (by omega), g1 71 v (by omega) hvn]
        exact m6 v (by omega)
    · by_cases hvn : v = nv
      · subst hvn
        rw [up_s]
        exact ⟨by omega, fun k hk => absurd hk (Nat.not_lt_zero k), fun k l _ hl => absurd hl (Nat.not_lt_zero l)⟩
      · rw [up_n hvn, up_n hvn, up_n hvn, up_n hvn]
        exact hR.1 v (by omega)
    · obtain ⟨e1, k, e2⟩ := hR.2.1 r hr'
      refine ⟨by omega, k, ?_⟩
      rw [up_n (by omega)]
      exact e2
    · by_cases hvn : v = nv
      · subst hvn
        rw [up_s] at hk
        exact absurd hk (Nat.not_lt_zero k)
      · rw [up_n hvn] at hk
        exact hR.2.2.1 v (by omega) k hk
    · by_cases hvn : v = nv
      · subst hvn
        rw [up_s, fv]
        exact ⟨ao 9 (by omega), fun k hk => absurd hk (Nat.not_lt_zero k)⟩
      · rw [up_n hvn, hr _ (by omega) (by omega) (by omega), hr _ (by omega) (by omega) (by omega), hr _ (by omega) (by omega) (by omega)]
        exact c7 v (by omega)
  · rw [if_neg hv] at hc
    have hm := m_vertex (xs := xs) m1.1 hn8 m1.2.2 x y z
    rw [if_neg hv] at hm
    exact cmp_ev hc hm h
end SIM
