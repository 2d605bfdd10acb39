/-! The reference says a thing; its hooks. -/
theorem rr_P.J {e : Nat} {τ τ' p : bk_S} (h : rr_P τ p) (hJ : rr_J e τ τ') : rr_P τ' p := by
  have c0 : ∀ j, ¬ (24 ≤ j ∧ j ≤ 27) → τ' 0 j = τ 0 j := fun j hj => hJ 0 j (by omega) (by omega) (by omega) (by omega) (by omega) (by omega)
  have cr : ∀ r, 0 < r → r < 33 → τ' r = τ r := fun r h1 h2 => funext fun j => hJ r j (by omega) (by omega) (by omega) (by omega) (by omega) (by omega)
  obtain ⟨h1, h2, h3, h4, h5, h6, ne, h7, h8, h9⟩ := h
  have hl : ∀ e n, bf_l τ' e n = bf_l τ e n := by
    intro e n
    induction n with
    | zero => unfold bf_l; rw [c0 17 (by omega), c0 18 (by omega)]
    | succ n ih => unfold bf_l bf_ok; rw [ih, cr 11 (by omega) (by omega), cr 10 (by omega) (by omega), cr 12 (by omega) (by omega), c0 19 (by omega)]
  have hk : ∀ e kd n, bf_k τ' e kd n = bf_k τ e kd n := by
    intro e kd n
    induction n with
    | zero => rfl
    | succ n ih => unfold bf_k bf_ok; rw [ih, cr 11 (by omega) (by omega), cr 10 (by omega) (by omega), c0 19 (by omega)]
  unfold rr_P
  rw [c0 12 (by omega), c0 16 (by omega), c0 8 (by omega), cr 4 (by omega) (by omega), cr 14 (by omega) (by omega), cr 15 (by omega) (by omega), cr 16 (by omega) (by omega)]
  refine ⟨h1, h2, h3, h4, h5, h6, ne, h7, h8, fun e he => ?_⟩
  rw [hl, hk, hk]
  exact h9 e he
theorem m_says {e h : Nat} {last : Bool} {p G τ : bk_S} {post : bk_S → Prop} (hp : mt_ok p) (he : e < 12) (hh : h < 12) (hP : rr_P τ p) (hG : rr_G e G τ) (hg : mt_gk p G) (hl : nI h = τ 0 23 ↔ last = true) (hpost : ∀ τ', rr_J e τ τ' → rr_G e (mt_mn p e h last G) τ' → post τ') : w_X9_says (nI e) (nI h) τ post := by
  have hnt := hp.nt
  unfold w_X9_says
  refine m_chosen hp hP.1 hP.2.2.2.1 hP.2.2.2.2.2.1 hG.2.1 ?_
  simp only [bk_lt_iff]
  have e1 : (12 : Int32) * nI e + nI h = nI (12 * e + h) := by rw [pz_12, pz_mulr, nI_add]
  have c1 : (nI (12 * e + h)).toNatClampNeg = 12 * e + h := nI_clamp (by omega)
  have hv144 : vp_in (nI (12 * e + h)) 144 := (pz_in (by omega)).mpr (by omega)
  simp only [e1, c1]
  refine ⟨hv144, ?_⟩
  have hmn : mt_mn p e h last G = mt_m2 p e h last (mt_ch p (G 1) (nI h)) (mt_m1 h (mt_ch p (G 1) (nI h)) G) := rfl
  rw [hmn] at hpost
  have spec := mt_ch_spec p (G 1) (nI h) hnt.2
  generalize mt_ch p (G 1) (nI h) = r at *
  rcases spec with ⟨j, a1, rfl, a3⟩ | ⟨rfl, -⟩ | ⟨rfl, -⟩
  · have j8 : j < 8 := by omega
    have n8 : ¬ nI j = 8 := fun h => by have := (nI_eq (a := j) (b := 8) (by omega) (by omega)).mp h; omega
    have n9 : ¬ nI j = 9 := fun h => by have := (nI_eq (a := j) (b := 9) (by omega) (by omega)).mp h; omega
    have cj : (nI j).toNatClampNeg = j := nI_clamp (by omega)
    have hvj : vp_in (nI j) 8 := (pz_in (by omega)).mpr j8
    have l8 : ¬ 8 ≤ nI j := fun h => by have := (nI_leI (a := 8) (b := j) (by omega) (by omega)).mp h; omega
    have hm2 : mt_m2 p e h last (nI j) (mt_m1 h (nI j) G) = mt_sy p e h j last (mt_m1 h (nI j) G) := by
      unfold mt_m2; rw [if_neg n8, if_neg n9, cj]
    rw [hm2] at hpost
    simp only [if_neg n8, if_neg n9, Int32.add_zero, bk_u_self, cj]
    refine ⟨fun h => absurd h l8, fun _ => ⟨hvj, ?_⟩⟩
    have H7 : rr_G e (mt_m1 h (nI j) G) (bk_u (bk_u τ 0 25 (τ 0 25 + 1)) 40 (12 * e + h) (nI j)) := by
      rw [hG.2.2.2.2.2.1]; exact (hG.u50 _).u4 h (nI j)
    have J7 : rr_J e τ (bk_u (bk_u τ 0 25 (τ 0 25 + 1)) 40 (12 * e + h) (nI j)) := ((rr_J.rf e τ).u (by omega)).u (by omega)
    have r0 : mt_m1 h (nI j) G 0 = G 0 := by unfold mt_m1; rw [bk_u_row _ (by decide), bk_u_row _ (by decide)]
    generalize bk_u (bk_u τ 0 25 (τ 0 25 + 1)) 40 (12 * e + h) (nI j) = τ7 at *
    generalize mt_m1 h (nI j) G = G1 at *
    have hP7 := hP.J J7
    have x23 : τ7 0 23 = τ 0 23 := J7 0 23 (by omega) (by omega) (by omega) (by omega) (by omega) (by omega)
    obtain ⟨n, b1, b9, hn⟩ := (hg j a1).1 a3
    refine bk_jn_of (fun a => a = mt_by p G1 j last) (fun K hK => ?_) (fun y hy => ?_)
    · rw [hP7.2.2.2.1 j a1, H7.2.2.2.2.2.2.2.2, x23]
      simp only [bk_jn_iff]
      unfold mt_by at hK
      refine ⟨fun n1 => ⟨hvj, fun n2 => hK _ ?_, fun e2 => ⟨fun hne => hK _ ?_, fun heq => hK _ ?_⟩⟩, fun e1 => ⟨fun hz => ⟨hvj, fun n2 => hK _ ?_, fun e2 => ?_⟩, fun hz => hK _ ?_⟩⟩
      · rw [if_neg (fun h => n1 h.1), if_neg (fun h => n2 h.1)]
      · rw [if_neg (fun h => n1 h.1), if_neg (fun h => hne (hl.mpr h.2))]
      · rw [if_neg (fun h => n1 h.1), if_pos ⟨e2, hl.mp heq⟩]
      · rw [if_neg (fun h => absurd h.2 (Int32.not_lt.mpr hz)), if_neg (fun h => n2 h.1)]
      · rw [e1] at e2; exact absurd e2 (by decide)
      · rw [if_pos ⟨e1, Int32.not_le.mp hz⟩]
    · subst hy
      refine ⟨hvj, hvj, hvj, ?_⟩
      rw [H7.2.2.2.1 j j8]
      have H8 := H7.u3 j (G1 3 j + 1)
      have J8 : rr_J e τ (bk_u τ7 34 j (G1 3 j + 1)) := J7.u (by omega)
      have x37 : bk_u τ7 34 j (G1 3 j + 1) 37 j = G1 2 j := by rw [bk_u_row _ (by decide)]; exact H7.2.2.1 j j8
      have x33 : bk_u τ7 34 j (G1 3 j + 1) 33 j = nI n := by rw [bk_u_row _ (by decide), H7.1 j j8, r0]; exact hn
      rw [x37]
      generalize bk_u τ7 34 j (G1 3 j + 1) = τ8 at *
      refine bk_jn_of (fun a => a = if G1 2 j < nI h then nI h else G1 2 j) (fun K hK => ?_) (fun y hy => ?_)
      · refine ⟨fun hle => ⟨hvj, hK _ ?_⟩, fun hle => hK _ ?_⟩
        · rw [if_neg (Int32.not_lt.mpr hle)]
        · rw [if_pos (Int32.not_le.mp hle)]
      · subst hy
        refine ⟨hvj, hvj, ?_⟩
        have H9 := H8.u2 j (if G1 2 j < nI h then nI h else G1 2 j)
        have J9 : rr_J e τ (bk_u τ8 37 j (if G1 2 j < nI h then nI h else G1 2 j)) := J8.u (by omega)
        have x33' : bk_u τ8 37 j (if G1 2 j < nI h then nI h else G1 2 j) 33 j = nI n := by rw [bk_u_row _ (by decide)]; exact x33
        rw [x33']
        generalize bk_u τ8 37 j (if G1 2 j < nI h then nI h else G1 2 j) = τ9 at *
        have hsf : mt_sf p G1 j last = if nI n < mt_by p G1 j last then 0 else nI n - mt_by p G1 j last := by unfold mt_sf; rw [r0, hn]
        refine bk_jn_of (fun a => a = mt_sf p G1 j last) (fun K hK => ?_) (fun y hy => ?_)
        · rw [hsf] at hK
          refine ⟨fun hle => ⟨hvj, hK _ ?_⟩, fun hle => hK _ ?_⟩
          · rw [if_neg (Int32.not_lt.mpr hle)]
          · rw [if_pos (Int32.not_le.mp hle)]
        · subst hy
          have H10 := H9.u0 j (mt_sf p G1 j last)
          have J10 : rr_J e τ (bk_u τ9 33 j (mt_sf p G1 j last)) := J9.u (by omega)
          rw [bk_u_same]
          refine ⟨hvj, hvj, fun hz => ?_, fun hz => ⟨hvj, ?_⟩⟩
          · refine hpost _ J10 ?_
            unfold mt_sy; rw [if_neg hz]; exact H10
          · refine hpost _ ((J10.u (by omega)).u (by omega)) ?_
            unfold mt_sy; rw [if_pos hz]
            rw [hz] at H10 ⊢
            have H11 := (H10.u1 j (nI e)).u53 (G1 5 3 + 1)
            have x24 : bk_u (bk_u τ9 33 j 0) 36 j (nI e) 0 24 = G1 5 3 := by
              rw [(H10.u1 j (nI e)).2.2.2.2.2.2.2.2]
              rw [bk_u_row _ (by decide), bk_u_row _ (by decide), bk_u_row _ (by decide), bk_u_row _ (by decide)]
            rw [x24]; exact H11
  · refine ⟨fun _ => ?_, fun h => absurd (by decide) h⟩
    rw [if_pos rfl, if_neg (by decide)]
    simp only [Int32.add_zero, bk_u_self]
    refine hpost _ ((((rr_J.rf e τ).u (by omega)).u (by omega)).u (by omega)) ?_
    unfold mt_m2 mt_m1
    rw [if_pos rfl]
    obtain ⟨a1, a2, a3, a4, a5, a6, a7, a8, a9⟩ := hG
    refine ⟨fun t ht => ?_, fun t ht => ?_, fun t ht => ?_, fun t ht => ?_, fun t ht => ?_, ?_, ?_, ?_, ?_⟩
    · simp [bk_u_at, a1 t ht]
    · simp [bk_u_at, a2 t ht]
    · simp [bk_u_at, a3 t ht]
    · simp [bk_u_at, a4 t ht]
    · simp [bk_u_at, a5 t ht]
    · simp [bk_u_at, a6]
    · simp [bk_u_at, a7]
    · simp [bk_u_at, a8]
    · simp [bk_u_at, a9]
  · refine ⟨fun _ => ?_, fun h => absurd (by decide) h⟩
    rw [if_neg (by decide), if_pos rfl]
    simp only [Int32.add_zero, bk_u_self]
    refine hpost _ ((((rr_J.rf e τ).u (by omega)).u (by omega)).u (by omega)) ?_
    unfold mt_m2 mt_m1
    rw [if_neg (by decide), if_pos rfl]
    obtain ⟨a1, a2, a3, a4, a5, a6, a7, a8, a9⟩ := hG
    refine ⟨fun t ht => ?_, fun t ht => ?_, fun t ht => ?_, fun t ht => ?_, fun t ht => ?_, ?_, ?_, ?_, ?_⟩
    · simp [bk_u_at, a1 t ht]
    · simp [bk_u_at, a2 t ht]
    · simp [bk_u_at, a3 t ht]
    · simp [bk_u_at, a4 t ht]
    · simp [bk_u_at, a5 t ht]
    · simp [bk_u_at, a6]
    · simp [bk_u_at, a7]
    · simp [bk_u_at, a8]
    · simp [bk_u_at, a9]
theorem m_lastOf {e : Nat} {p τ : bk_S} {post : Int32 → Prop} (hp : mt_ok p) (hP : rr_P τ p) (hL : τ 0 22 = p 5 e) (hpost : post (mt_lh p e)) : w_X9_lastOf τ post := by
  have hnh := hp.nh
  unfold w_X9_lastOf
  simp only [bk_lt_iff]
  rw [hP.2.1, hnh.1, hL]
  refine bk_jn_of (fun a => a = mt_l1 p (p 5 e) (mt_nh p)) (fun K hK => ?_) (fun a ha => ?_)
  · refine bk_loop_up (mt_nh p) (fun k (_ : Unit) => (mt_l1 p (p 5 e) k, nI k)) (fun _ _ => True) (i0 := 0) (b0 := ()) rfl (Nat.zero_le _) trivial ?_ ?_
    · intro k _ K2 hk _ hK2
      have hK2 := hK2 () trivial
      refine ⟨fun hle => absurd ((nI_leI (by omega) (by omega)).mp hle) (by omega), fun _ => ?_⟩
      simp only [nI_1, bk_jn_iff]
      rw [mt_l1] at hK2
      refine m_isIn (fun hb => ⟨fun _ => ?_, fun h => absurd h (by decide)⟩) (fun hb => ⟨fun h => absurd rfl h, fun _ => m_takes (by omega) ?_⟩)
      · rw [if_neg (by rw [hb]; simp)] at hK2; exact hK2
      · rw [hL, if_neg (by rw [hb]; simp), Int32.add_zero, hP.2.2.1 k hk]
        refine ⟨fun hz => ?_, fun hz => ?_⟩
        · rw [if_neg (fun h => absurd h.2 (Int32.not_lt.mpr hz))] at hK2; exact hK2
        · rw [if_pos ⟨hb, Int32.not_le.mp hz⟩] at hK2; exact hK2
    · intro _ K2 _
      exact ⟨fun _ => hK _ rfl, fun hn => absurd ((nI_leI (by omega) (by omega)).mpr (Nat.le_refl _)) hn⟩
  · subst ha
    refine bk_loop_up (mt_nh p) (fun k (_ : Unit) => (mt_l2 (p 5 e) (mt_l1 p (p 5 e) (mt_nh p)) k, nI k)) (fun _ _ => True) (i0 := 0) (b0 := ()) rfl (Nat.zero_le _) trivial ?_ ?_
    · intro k _ K2 hk _ hK2
      have hK2 := hK2 () trivial
      refine ⟨fun hle => absurd ((nI_leI (by omega) (by omega)).mp hle) (by omega), fun _ => ?_⟩
      simp only [nI_1, bk_jn_iff]
      rw [mt_l2] at hK2
      refine m_isIn (fun hb => ⟨fun h => absurd h (by decide), fun _ => m_takes (by omega) ?_⟩) (fun hb => ⟨fun _ => ?_, fun h => absurd rfl h⟩)
      · rw [hL, if_pos hb, hP.2.2.1 k hk]
        obtain ⟨n, hn2, hn⟩ := hp.2.2.1 k hk
        rw [hn, nI_1]
        rw [if_pos hb] at hK2
        exact ⟨fun hz => absurd hz (nI_nle (by omega) (by omega)), fun _ => hK2⟩
      · rw [if_neg (by rw [hb]; simp)] at hK2; exact hK2
    · intro _ K2 _
      exact ⟨fun _ => hpost, fun hn => absurd ((nI_leI (by omega) (by omega)).mpr (Nat.le_refl _)) hn⟩
theorem m_does {e : Nat} {lf : Bool} {x : Int32} {p G τ : bk_S} {post : bk_S → Prop} (hx : x = if lf = true then 1 else 0) (hp : mt_ok p) (he : e < 12) (hP : rr_P τ p) (hL : τ 0 22 = p 5 e) (h23 : τ 0 23 = mt_lh p e) (hG : rr_G e G τ) (hg : mt_gk p G) (hpost : ∀ τ', rr_J e τ τ' → rr_G e (mt_ds p e lf (mt_nh p) G) τ' → post τ') : w_X9_does (nI e) x τ post := by
  have hnh := hp.nh
  unfold w_X9_does
  simp only [bk_lt_iff]
  refine bk_loop_up (mt_nh p) (fun k (τ' : bk_S) => (nI k, τ')) (fun k τ' => rr_J e τ τ' ∧ rr_G e (mt_ds p e lf k G) τ') (i0 := 0) (b0 := τ) rfl (Nat.zero_le _) ⟨rr_J.rf e τ, hG⟩ ?_ ?_
  · rintro k τ1 K hk ⟨hJ, hG1⟩ hK
    have hP1 := hP.J hJ
    have y22 : τ1 0 22 = p 5 e := by rw [hJ 0 22 (by omega) (by omega) (by omega) (by omega) (by omega) (by omega)]; exact hL
    refine ⟨fun hle => ?_, fun _ => ?_⟩
    · have hle : τ1 0 16 ≤ nI k := hle
      rw [hP1.2.1, hnh.1] at hle
      exact absurd ((nI_leI (by omega) (by omega)).mp hle) (by omega)
    · have go : ∀ (r4 : Int32), (r4 = if mt_b (p 5 e) k = true then 1 else 0) → (r4 = x ↔ mt_b (p 5 e) k = lf) := by
        intro r4 hr
        rw [hr, hx]
        cases mt_b (p 5 e) k <;> cases lf <;> simp
      have main : ∀ r4 : Int32, (r4 = x ↔ mt_b (p 5 e) k = lf) → (¬ r4 = x → K (nI k + 1, τ1)) ∧ (r4 = x → w_X9_takes (nI k) τ1 (fun r6 => bk_loop (α := Int32 × bk_S) (fun K8 a9 => (a9.1 ≤ 0 → K (nI k + 1, a9.2)) ∧ (¬ a9.1 ≤ 0 → w_X9_says (nI e) (nI k) a9.2 (fun σ11 => K8 (a9.1 + (-1 : Int32), σ11)))) (r6, τ1))) := by
        intro r4 hr
        simp only [mt_ds, mt_hk] at hK
        refine ⟨fun hne => ?_, fun heq => m_takes (by omega) ?_⟩
        · rw [if_neg (fun h => hne (hr.mpr h))] at hK
          rw [nI_1]; exact hK _ ⟨hJ, hG1⟩
        · have hb := hr.mp heq
          rw [if_pos hb] at hK
          obtain ⟨n, hn2, hn⟩ := hp.2.2.1 k hk
          have htk : τ1 4 k + (if mt_b (τ1 0 22) k = true then 1 else 0) = nI (mt_tk p e k) := by
            unfold mt_tk
            rw [hP1.2.2.1 k hk, y22, hn, nI_clamp (by omega)]
            by_cases hbb : mt_b (p 5 e) k = true
            · rw [if_pos hbb, if_pos hbb, nI_1]
            · rw [if_neg hbb, if_neg hbb, Int32.add_zero]; rfl
          have htk3 : mt_tk p e k ≤ 3 := by
            unfold mt_tk; rw [hn, nI_clamp (by omega)]; split <;> omega
          rw [htk]
          generalize hT : mt_tk p e k = T at *
          generalize hGk : mt_ds p e lf k G = Gk at *
          have hgk : mt_gk p Gk := by rw [← hGk]; exact hg.ds hp he k
          refine bk_loop_up T (fun i (τ' : bk_S) => (nI (T - i), τ')) (fun i τ' => rr_J e τ τ' ∧ rr_G e (mt_it (mt_mn p e k (decide (nI k = mt_lh p e))) i Gk) τ') (i0 := 0) (b0 := τ1) rfl (Nat.zero_le _) ⟨hJ, hG1⟩ ?_ ?_
          · rintro i τ2 K3 hi ⟨hJ2, hG2⟩ hK3
            refine ⟨fun hz => absurd hz (nI_nle (by omega) (by omega)), fun _ => ?_⟩
            refine m_says (last := decide (nI k = mt_lh p e)) hp he (by omega) (hP.J hJ2) hG2 (hgk.it hp he i) ?_ (fun τ3 hJ3 hG3 => ?_)
            · show nI k = τ2 0 23 ↔ _
              rw [hJ2 0 23 (by omega) (by omega) (by omega) (by omega) (by omega) (by omega), h23]; simp
            · have := hK3 τ3 ⟨hJ2.tr hJ3, hG3⟩
              have e2 : nI (T - i) + (-1 : Int32) = nI (T - (i + 1)) := by
                rw [show T - i = (T - (i + 1)) + 1 by omega]; exact pk_m1 _
              rw [e2]; exact this
          · rintro τ2 K3 ⟨hJ2, hG2⟩
            refine ⟨fun _ => ?_, fun hz => absurd (by show nI (T - T) ≤ 0; rw [Nat.sub_self]; decide) hz⟩
            rw [nI_1]; exact hK _ ⟨hJ2, hG2⟩
      refine m_isIn (fun hb => ?_) (fun hb => ?_)
      · have hb : mt_b (τ1 0 22) k = true := hb
        rw [y22] at hb; exact main 1 (go 1 (by rw [if_pos hb]))
      · have hb : mt_b (τ1 0 22) k = false := hb
        rw [y22] at hb; exact main 0 (go 0 (by rw [if_neg (by rw [hb]; simp)]))
  · rintro τ1 K ⟨hJ, hG1⟩
    have hP1 := hP.J hJ
    refine ⟨fun _ => hpost _ hJ hG1, fun hn => absurd ?_ hn⟩
    show τ1 0 16 ≤ nI (mt_nh p)
    rw [hP1.2.1, hnh.1]; exact (nI_leI (by omega) (by omega)).mpr (Nat.le_refl _)
