/-! A minute, a hook of the class's course. -/
theorem bk_u_self (σ : bk_S) (k j : Nat) : bk_u σ k j (σ k j) = σ := by
  funext a b; rw [bk_u_at]; split
  · next h => rw [h.1, h.2]
  · rfl
theorem cr_E_self (p : bk_S) (e : Nat) (G : bk_S) : cr_E p e G e = G := by simp [cr_E]
theorem mt_gk.rows {p G G' : bk_S} (h : mt_gk p G) (h0 : G' 0 = G 0) (h1 : G' 1 = G 1) : mt_gk p G' := by unfold mt_gk; rw [h0, h1]; exact h
theorem pz_sfa : ∀ n, n < 9 → ∀ b, b < 3 → decide (0 < nI (n + 1) - nI (b + 1)) = !decide ((if nI (n + 1) < nI (b + 1) then (0 : Int32) else nI (n + 1) - nI (b + 1)) = 0) := by decide +kernel
theorem pz_sfb : ∀ n, n < 9 → ∀ b, b < 3 → (!decide (0 < nI (n + 1) - nI (b + 1)) || decide (nI (n + 1) - nI (b + 1) = if nI (n + 1) < nI (b + 1) then (0 : Int32) else nI (n + 1) - nI (b + 1))) = true := by decide +kernel
theorem pz_sfc : ∀ n, n < 9 → ∀ b, b < 3 → (if nI (n + 1) < nI (b + 1) then (0 : Int32) else nI (n + 1) - nI (b + 1)) = nI (n + 1 - (b + 1)) := by decide +kernel
theorem pz_sf (n : Nat) (hn : n < 10) (b : Nat) (hb : b < 4) (h1 : 1 ≤ n) (h2 : 1 ≤ b) : ((0 < nI n - nI b ↔ ¬ (if nI n < nI b then (0 : Int32) else nI n - nI b) = 0) ∧ (0 < nI n - nI b → nI n - nI b = if nI n < nI b then (0 : Int32) else nI n - nI b) ∧ (if nI n < nI b then (0 : Int32) else nI n - nI b) = nI (n - b)) := by
  obtain ⟨n, rfl⟩ : ∃ m, n = m + 1 := ⟨n - 1, by omega⟩
  obtain ⟨b, rfl⟩ : ∃ m, b = m + 1 := ⟨b - 1, by omega⟩
  have f1 := pz_sfa n (by omega) b (by omega)
  have f2 := pz_sfb n (by omega) b (by omega)
  refine ⟨?_, fun h => ?_, pz_sfc n (by omega) b (by omega)⟩
  · by_cases h : 0 < nI (n + 1) - nI (b + 1)
    · rw [decide_eq_true h] at f1; exact ⟨fun _ => by simpa using f1, fun _ => h⟩
    · rw [decide_eq_false h] at f1; exact ⟨fun h' => absurd h' h, fun h' => by rw [decide_eq_false h'] at f1; simp at f1⟩
  · rw [decide_eq_true h, Bool.not_true, Bool.false_or] at f2; exact of_decide_eq_true f2
theorem c_soften {b e k n : Nat} {x1 x4 y : Int32} {σ : bk_S} {post : bk_S → Prop} (he : e < 12) (hk : k < 8) (hn : 1 ≤ n ∧ n ≤ 9) (hh : σ (b + 1) k = nI n) (hy : y = if x1 = 1 ∧ 0 < σ (b + 11) e then 2 else if x1 = 2 ∧ ¬ x4 = 0 then 3 else 1)
    (p1 : ¬ (if nI n < y then 0 else nI n - y) = 0 → post (bk_u σ (b + 1) k (if nI n < y then 0 else nI n - y)))
    (p2 : (if nI n < y then 0 else nI n - y) = 0 → post (bk_u (bk_u (bk_u (bk_u σ (b + 1) k 0) (b + 2) k (nI e)) (b + 11) e (σ (b + 11) e + 1)) b 11 (σ b 11 + 1))) : w_X1_soften b x1 (nI e) (nI k) x4 σ post := by
  unfold w_X1_soften
  simp only [bk_lt]
  have hv8 : vp_in (nI k) 8 := (pz_in (by omega)).mpr hk
  have hv12 : vp_in (nI e) 12 := (pz_in (by omega)).mpr he
  have ck : (nI k).toNatClampNeg = k := nI_clamp (by omega)
  have ce : (nI e).toNatClampNeg = e := nI_clamp (by omega)
  refine bk_jn_of (fun a => a = y) (fun K hK => ?_) (fun a ha => ?_)
  · simp only [bk_jn, ce]
    refine ⟨fun n1 => ⟨fun n2 => hK _ ?_, fun e2 => ⟨fun z => hK _ ?_, fun z => hK _ ?_⟩⟩, fun e1 => ⟨hv12, fun z => ⟨fun n2 => hK _ ?_, fun e2 => ?_⟩, fun z => hK _ ?_⟩⟩
    · rw [hy, if_neg (fun h => n1 h.1), if_neg (fun h => n2 h.1)]
    · rw [hy, if_neg (fun h => n1 h.1), if_neg (fun h => h.2 z)]
    · rw [hy, if_neg (fun h => n1 h.1), if_pos ⟨e2, z⟩]
    · rw [hy, if_neg (fun h => absurd h.2 (Int32.not_lt.mpr z)), if_neg (fun h => n2 h.1)]
    · rw [e1] at e2; exact absurd e2 (by decide)
    · rw [hy, if_pos ⟨e1, Int32.not_le.mp z⟩]
  · subst ha
    have hb : ∃ m, m < 4 ∧ 1 ≤ m ∧ a = nI m := by
      rw [hy]
      split
      · exact ⟨2, by omega, by omega, rfl⟩
      · split
        · exact ⟨3, by omega, by omega, rfl⟩
        · exact ⟨1, by omega, by omega, rfl⟩
    obtain ⟨m, hm1, hm2, rfl⟩ := hb
    obtain ⟨f1, f2, f3⟩ := pz_sf n (by omega) m hm1 hn.1 hm2
    simp only [ck, ce, hh, bk_u_same, bk_u_u]
    refine ⟨hv8, hv8, hv8, fun z => ?_, fun z => ⟨hv8, hv8, hv12, hv12, ?_⟩⟩
    · rw [f2 z]; exact p1 (f1.mp z)
    · have q := p2 (Decidable.byContradiction fun hc => z (f1.mpr hc))
      rw [bk_u_row (a := b + 11) _ (by omega), bk_u_row (a := b + 11) _ (by omega), bk_u_row (a := b) _ (by omega), bk_u_row (a := b) _ (by omega), bk_u_row (a := b) _ (by omega)]
      exact q
theorem mt_gk.sy {p G : bk_S} (hg : mt_gk p G) {e h k : Nat} {last : Bool} (he : e < 12) (hk : k < mt_nt p) (ho : G 1 k = -1) : mt_gk p (mt_sy p e h k last G) := by
  obtain ⟨n, n1, n9, hn⟩ := (hg k hk).1 ho
  have hb : ∃ m, m < 4 ∧ 1 ≤ m ∧ mt_by p G k last = nI m := by
    unfold mt_by
    split
    · exact ⟨2, by omega, by omega, rfl⟩
    · split
      · exact ⟨3, by omega, by omega, rfl⟩
      · exact ⟨1, by omega, by omega, rfl⟩
  obtain ⟨m, hm1, hm2, hm⟩ := hb
  obtain ⟨f1, f2, f3⟩ := pz_sf n (by omega) m hm1 n1 hm2
  have hsf : mt_sf p G k last = nI (n - m) := by unfold mt_sf; rw [hn, hm]; exact f3
  unfold mt_sy
  by_cases hz : mt_sf p G k last = 0
  · rw [if_pos hz]
    intro t ht
    simp only [bk_u_at]
    by_cases htk : t = k
    · subst htk; simp only [and_self, if_true, reduceCtorEq, false_and, if_false, Nat.reduceEqDiff]
      exact ⟨fun h => absurd h (pz_ne_m1 (by omega)), fun _ => ⟨e, he, rfl⟩⟩
    · simpa [htk] using hg t ht
  · rw [if_neg hz]
    intro t ht
    simp only [bk_u_at]
    by_cases htk : t = k
    · subst htk
      have hpos : ¬ n - m = 0 := fun h0 => hz (by rw [hsf, h0]; rfl)
      simp only [ho, hsf]
      exact ⟨fun _ => ⟨n - m, by omega, by omega, by simp⟩, fun h => absurd (by simp [ho]) h⟩
    · simpa [htk] using hg t ht
theorem mt_gk.mn {p G : bk_S} (hp : mt_ok p) (hg : mt_gk p G) {e h : Nat} {last : Bool} (he : e < 12) : mt_gk p (mt_mn p e h last G) := by
  unfold mt_mn
  have hg1 : ∀ r, mt_gk p (mt_m1 h r G) := fun r => hg.rows (by unfold mt_m1; rw [bk_u_row _ (by decide), bk_u_row _ (by decide)]) (by unfold mt_m1; rw [bk_u_row _ (by decide), bk_u_row _ (by decide)])
  rcases mt_ch_spec p (G 1) (nI h) hp.nt.2 with ⟨j, a1, a2, a3⟩ | ⟨a1, -⟩ | ⟨a1, -⟩
  · have hnt := hp.nt.2
    rw [a2]
    unfold mt_m2
    rw [if_neg (fun h => by have := (nI_eq (a := j) (b := 8) (by omega) (by omega)).mp h; omega), if_neg (fun h => by have := (nI_eq (a := j) (b := 9) (by omega) (by omega)).mp h; omega), nI_clamp (by omega)]
    refine (hg1 _).sy he a1 ?_
    unfold mt_m1; rw [bk_u_row _ (by decide), bk_u_row _ (by decide)]; exact a3
  · rw [a1]; unfold mt_m2; rw [if_pos rfl]
    exact (hg1 8).rows (bk_u_row _ (by decide)) (bk_u_row _ (by decide))
  · rw [a1]; unfold mt_m2; rw [if_neg (by decide), if_pos rfl]
    exact (hg1 9).rows (bk_u_row _ (by decide)) (bk_u_row _ (by decide))
theorem c_doHook {c s e h tk : Nat} {last : Bool} {p G σ : bk_S} {post : bk_S → Prop} (hp : mt_ok p) (hsc : s + 6 < c) (he : e < 12) (hh : h < 12) (htk : tk ≤ 3) (hS : cr_S s p σ) (hR : cr_R c e p G σ) (hg : mt_gk p G)
    (hpost : ∀ σ', cr_F c σ σ' → cr_R c e p (mt_it (mt_mn p e h last) tk G) σ' → mt_gk p (mt_it (mt_mn p e h last) tk G) → post σ') : w_X1_doHook c s (nI e) (nI h) (nI tk) (if last = true then 1 else 0) σ post := by
  unfold w_X1_doHook
  simp only [bk_lt]
  have hnt := hp.nt
  have hv12 : vp_in (nI e) 12 := (pz_in (by omega)).mpr he
  have ce : (nI e).toNatClampNeg = e := nI_clamp (by omega)
  have e1 : nI e * 12 + nI h = nI (e * 12 + h) := by rw [pz_12, pz_mulr, nI_add]
  have c1 : (nI (e * 12 + h)).toNatClampNeg = e * 12 + h := nI_clamp (by omega)
  have hv144 : vp_in (nI (e * 12 + h)) 144 := (pz_in (by omega)).mpr (by omega)
  refine bk_loop_up tk (fun m (σ' : bk_S) => (nI m, σ')) (fun m σ' => cr_F c σ σ' ∧ cr_R c e p (mt_it (mt_mn p e h last) m G) σ' ∧ mt_gk p (mt_it (mt_mn p e h last) m G)) (i0 := 0) (b0 := σ) rfl (Nat.zero_le _) ⟨cr_F.rf c σ, hR, hg⟩ ?_ ?_
  · rintro m σ' K hm ⟨hF, hR, hg⟩ hK
    refine ⟨fun hle => absurd ((nI_leI (by omega) (by omega)).mp hle) (by omega), fun _ => ?_⟩
    have hK := fun x => hK x
    simp only [mt_it] at hK
    generalize mt_it (mt_mn p e h last) m G = G' at *
    have hg2 : mt_gk p (mt_mn p e h last G') := hg.mn hp he
    have hS' := hS.F hF (Or.inl hsc)
    simp only [nI_1, ce, e1, c1]
    refine c_whatIsSaid hp hS'.2.1 hS'.2.2.2.1 hS'.2.2.2.2.2.1 hR.2.1 hR.2.2.2.1 ?_
    refine ⟨hv12, hv12, hv144, ?_⟩
    have H6 := hR.u50 (G' 5 0 + 1)
    have x8 : σ' (c + 8) e = G' 5 0 := by rw [hR.2.2.2.2.2.2.2.1 e he, cr_E_self]
    rw [x8]
    have H7 := H6.u4 (mt_ch p (G' 1) (nI h)) hh he
    have F7 : cr_F c σ (bk_u (bk_u σ' (c + 8) e (G' 5 0 + 1)) (c + 7) (e * 12 + h) (mt_ch p (G' 1) (nI h))) := (hF.u (by omega) (by omega)).u (by omega) (by omega)
    have hmn : mt_mn p e h last G' = mt_m2 p e h last (mt_ch p (G' 1) (nI h)) (mt_m1 h (mt_ch p (G' 1) (nI h)) G') := rfl
    have hm1 : mt_m1 h (mt_ch p (G' 1) (nI h)) G' = bk_u (bk_u G' 5 0 (G' 5 0 + 1)) 4 h (mt_ch p (G' 1) (nI h)) := rfl
    rw [← hm1] at H7
    generalize (bk_u (bk_u σ' (c + 8) e (G' 5 0 + 1)) (c + 7) (e * 12 + h) (mt_ch p (G' 1) (nI h))) = σ7 at *
    have r0 : mt_m1 h (mt_ch p (G' 1) (nI h)) G' 0 = G' 0 := by unfold mt_m1; rw [bk_u_row _ (by decide), bk_u_row _ (by decide)]
    have r1 : mt_m1 h (mt_ch p (G' 1) (nI h)) G' 1 = G' 1 := by unfold mt_m1; rw [bk_u_row _ (by decide), bk_u_row _ (by decide)]
    have spec := mt_ch_spec p (G' 1) (nI h) hnt.2
    generalize mt_ch p (G' 1) (nI h) = r at *
    rcases spec with ⟨j, a1, rfl, a3⟩ | ⟨rfl, -⟩ | ⟨rfl, -⟩
    · have j8 : j < 8 := by omega
      have n8 : ¬ nI j = 8 := fun h => by have := (nI_eq (a := j) (b := 8) (by omega) (by omega)).mp h; omega
      have n9 : ¬ nI j = 9 := fun h => by have := (nI_eq (a := j) (b := 9) (by omega) (by omega)).mp h; omega
      have e2 : nI e * 8 + nI j = nI (e * 8 + j) := by rw [pz_8, pz_mulr, nI_add]
      have c2 : (nI (e * 8 + j)).toNatClampNeg = e * 8 + j := nI_clamp (by omega)
      have cj : (nI j).toNatClampNeg = j := nI_clamp (by omega)
      have hvj : vp_in (nI j) 8 := (pz_in (by omega)).mpr j8
      have hv96 : vp_in (nI (e * 8 + j)) 96 := (pz_in (by omega)).mpr (by omega)
      refine ⟨fun _ => ⟨fun _ => ?_, fun h9 => absurd h9 n9⟩, fun h8 => absurd h8 n8⟩
      simp only [e2, c2, cj]
      refine ⟨hv96, hv96, hvj, hvj, hvj, ?_⟩
      have H9 := H7.u3 he j8
      rw [bk_u_row (a := c + 4) _ (by omega)]
      have F9 : cr_F c σ (bk_u (bk_u σ7 (c + 6) (e * 8 + j) (σ7 (c + 6) (e * 8 + j) + 1)) (c + 4) j (σ7 (c + 4) j + 1)) := (F7.u (by omega) (by omega)).u (by omega) (by omega)
      rw [hmn] at hg2
      have hm2 : mt_m2 p e h last (nI j) (mt_m1 h (nI j) G') = mt_sy p e h j last (mt_m1 h (nI j) G') := by
        unfold mt_m2; rw [if_neg n8, if_neg n9, cj]
      rw [hm2] at hg2
      rw [hmn, hm2] at hK
      clear hmn hm2
      generalize (bk_u (bk_u σ7 (c + 6) (e * 8 + j) (σ7 (c + 6) (e * 8 + j) + 1)) (c + 4) j (σ7 (c + 4) j + 1)) = σ9 at *
      generalize mt_m1 h (nI j) G' = G1 at *
      refine bk_jn_of (fun a => cr_F c σ a ∧ cr_R c e p (bk_u (bk_u G1 3 j (G1 3 j + 1)) 2 j (if G1 2 j < nI h then nI h else G1 2 j)) a) (fun K2 hK2 => ?_) (fun σ12 hq => ?_)
      · have x3 : σ9 (c + 3) j = G1 2 j := by rw [H9.2.2.1 j j8, bk_u_row _ (by decide)]
        rw [x3]
        refine ⟨fun hle => hK2 _ ⟨F9, ?_⟩, fun hle => ⟨hvj, hK2 _ ⟨F9.u (by omega) (by omega), ?_⟩⟩⟩
        · rw [if_neg (Int32.not_lt.mpr hle)]
          have := bk_u_self (bk_u G1 3 j (G1 3 j + 1)) 2 j
          rw [show (bk_u G1 3 j (G1 3 j + 1)) 2 j = G1 2 j by rw [bk_u_row _ (by decide)]] at this
          rw [this]; exact H9
        · rw [if_pos (Int32.not_le.mp hle)]
          exact H9.u2 (nI h)
      · obtain ⟨F12, H12⟩ := hq
        refine ⟨hvj, ?_⟩
        have hS12 := hS.F F12 (Or.inl hsc)
        rw [hS12.2.2.2.1 j a1]
        obtain ⟨n, b1, b9, hn⟩ := (hg j a1).1 a3
        have x1 : σ12 (c + 1) j = nI n := by rw [H12.1 j a1, bk_u_row _ (by decide), bk_u_row _ (by decide), r0]; exact hn
        have x11 : σ12 (c + 11) e = G1 5 3 := by rw [H12.2.2.2.2.2.2.2.2.2.2.1 e he, cr_E_self, bk_u_row _ (by decide), bk_u_row _ (by decide)]
        have hG0 : G1 0 j = nI n := by rw [r0]; exact hn
        have hsf : mt_sf p G1 j last = if nI n < mt_by p G1 j last then 0 else nI n - mt_by p G1 j last := by unfold mt_sf; rw [hG0]
        refine c_soften (n := n) (y := mt_by p G1 j last) he j8 ⟨b1, b9⟩ x1 ?_ (fun hz => ?_) (fun hz => ?_)
        · unfold mt_by; rw [x11]
          cases last <;> simp
        · rw [← hsf] at hz ⊢
          refine hK _ ⟨F12.u (by omega) (by omega), ?_, hg2⟩
          unfold mt_sy; rw [if_neg hz]
          exact H12.u0 _
        · rw [← hsf] at hz
          refine hK _ ⟨(((F12.u (by omega) (by omega)).u (by omega) (by omega)).u (by omega) (by omega)).u (by omega) (by omega), ?_, hg2⟩
          unfold mt_sy; rw [if_pos hz, x11]
          have H13 := H12.u0 (k := j) 0
          have hop : (bk_u (bk_u (bk_u G1 3 j (G1 3 j + 1)) 2 j (if G1 2 j < nI h then nI h else G1 2 j)) 0 j 0) 1 j = -1 := by
            rw [bk_u_row _ (by decide), bk_u_row _ (by decide), bk_u_row _ (by decide), r1]; exact a3
          have H14 := H13.u1 he a1 hop (nI e) (pz_ne_m1 (by omega)) (G1 5 3 + 1)
          rw [bk_u_row (a := c) _ (by omega)] at H14
          exact H14
    · refine ⟨fun h8 => absurd rfl h8, fun _ => ⟨hv12, hv12, ?_⟩⟩
      have x9 : σ7 (c + 9) e = mt_m1 h 8 G' 5 1 := by rw [H7.2.2.2.2.2.2.2.2.1 e he, cr_E_self]
      rw [x9]
      have hm2 : mt_mn p e h last G' = bk_u (mt_m1 h 8 G') 5 1 (mt_m1 h 8 G' 5 1 + 1) := by rw [hmn]; unfold mt_m2; rw [if_pos rfl]
      rw [hm2] at hK hg2
      exact hK _ ⟨F7.u (by omega) (by omega), H7.u51 _, hg2⟩
    · refine ⟨fun _ => ⟨fun h9 => absurd rfl h9, fun _ => ⟨hv12, hv12, ?_⟩⟩, fun h8 => absurd h8 (by decide)⟩
      have x9 : σ7 (c + 10) e = mt_m1 h 9 G' 5 2 := by rw [H7.2.2.2.2.2.2.2.2.2.1 e he, cr_E_self]
      rw [x9]
      have hm2 : mt_mn p e h last G' = bk_u (mt_m1 h 9 G') 5 2 (mt_m1 h 9 G' 5 2 + 1) := by rw [hmn]; unfold mt_m2; rw [if_neg (by decide), if_pos rfl]
      rw [hm2] at hK hg2
      exact hK _ ⟨F7.u (by omega) (by omega), H7.u52 _, hg2⟩
  · rintro σ' K ⟨hF, hR, hg⟩
    exact ⟨fun _ => hpost σ' hF hR hg, fun hn => absurd ((nI_leI (by omega) (by omega)).mpr (Nat.le_refl _)) hn⟩
