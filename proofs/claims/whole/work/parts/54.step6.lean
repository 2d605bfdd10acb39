/-! Steps: reading events from a sheet, writing what was said. -/
theorem first_bad {c : Nat → Prop} : ∀ N, ¬ c N → ∃ K, K ≤ N ∧ ¬ c K ∧ ∀ i, i < K → c i
  | 0, h => ⟨0, Nat.le_refl _, h, fun i hi => absurd hi (Nat.not_lt_zero _)⟩
  | N + 1, h => by
    by_cases q : ∃ K, K ≤ N ∧ ¬ c K ∧ ∀ i, i < K → c i
    · obtain ⟨K, h1, h2, h3⟩ := q
      exact ⟨K, by omega, h2, h3⟩
    · have hN : c N := Classical.byContradiction fun n => q (first_bad N n)
      have all : ∀ i, i ≤ N → c i := fun i hi => Classical.byContradiction fun n => by
        obtain ⟨K, h1, h2, h3⟩ := first_bad i n
        exact q ⟨K, by omega, h2, h3⟩
      exact ⟨N + 1, Nat.le_refl _, h, fun i hi => all i (by omega)⟩
def eK (σ : bk_S) (f : Nat → Int32) : Nat → bk_S
  | 0 => σ
  | k + 1 => ea (eK σ f k) (f (3 * k)) (f (3 * k + 1)) (f (3 * k + 2))
def rK (τ : bk_S) (n : Nat) (f : Nat → Int32) : Nat → bk_S
  | 0 => τ
  | k + 1 => ra (rK τ n f k) (n + k) (f (3 * k)) (f (3 * k + 1)) (f (3 * k + 2))
theorem eK_ok {σ τ : bk_S} {f : Nat → Int32} (h : RR σ τ) : ∀ k, (∀ i, i < k → eo (f (3 * i)) (f (3 * i + 1)) (f (3 * i + 2)) ∧ bs_ne σ + i < 8) → RR (eK σ f k) (rK τ (bs_ne σ) f k) ∧ bs_ne (eK σ f k) = bs_ne σ + k ∧ (∀ j, 9 ≤ j → eK σ f k j = σ j) ∧ (∀ j, 13 ≤ j → rK τ (bs_ne σ) f k j = τ j)
  | 0, _ => ⟨h, rfl, fun _ _ => rfl, fun _ _ => rfl⟩
  | k + 1, hk => by
    obtain ⟨R, n, e, r⟩ := eK_ok h k (fun i hi => hk i (by omega))
    obtain ⟨o, lt⟩ := hk k (by omega)
    obtain ⟨a1, a2, a3, a4⟩ := ea_ok R.1.1 R.2 o (by omega)
    rw [n] at a2 a3
    refine ⟨⟨a1, a2⟩, by rw [show eK σ f (k + 1) = ea (eK σ f k) (f (3 * k)) (f (3 * k + 1)) (f (3 * k + 2)) from rfl, a3]; omega, fun j hj => (a4 j hj).trans (e j hj), fun j hj => ?_⟩
    rw [← r j hj]
    show ra (rK τ (bs_ne σ) f k) (bs_ne σ + k) _ _ _ j = _
    unfold ra
    rw [bk_u_row _ (by omega), bk_u_row _ (by omega), bk_u_row _ (by omega), bk_u_row _ (by omega)]
theorem s_read {x : Int32} {σ τ : bk_S} (h : RR σ τ) : stp (w_X8_read x σ) (w_X9_read x τ) := by
  by_cases b : bw x 4
  · obtain ⟨s, hs, rfl⟩ := bw_4 b
    have cl : (nI s).toNatClampNeg = s := nI_clamp (by omega)
    rcases sh_case h hs with ⟨e1, e2⟩ | ⟨n, hn, e1, e2, e3, e4, e5⟩
    · refine stp.fd (v := 1) (r := -10 - 1) h (fun P hP => c_isSheet (fun _ => br1' ⟨vp4 hs, ?_⟩) (fun q => absurd b q)) (fun Q hQ => m_isSheet (fun _ => br1' ⟨vp4 hs, ?_⟩) (fun q => absurd b q))
      · rw [cl]; exact c_lost e1 (br1 hP)
      · rw [cl]; exact ⟨fun q => absurd e2 q, fun _ => hQ⟩
    · obtain ⟨K, hK20, hKn, hKl⟩ := first_bad (c := fun k => 3 * k + 2 < n ∧ eo (σ (14 + 2 * s + 1) (3 * k)) (σ (14 + 2 * s + 1) (3 * k + 1)) (σ (14 + 2 * s + 1) (3 * k + 2)) ∧ bs_ne σ + k < 8) 20 (fun q => by have := q.1; omega)
      have inv : ∀ k, k ≤ K → RR (eK σ (σ (14 + 2 * s + 1)) k) (rK τ (bs_ne σ) (σ (14 + 2 * s + 1)) k) ∧ bs_ne (eK σ (σ (14 + 2 * s + 1)) k) = bs_ne σ + k ∧ (∀ j, 9 ≤ j → eK σ (σ (14 + 2 * s + 1)) k j = σ j) ∧ (∀ j, 13 ≤ j → rK τ (bs_ne σ) (σ (14 + 2 * s + 1)) k j = τ j) := fun k hk => eK_ok h k (fun i hi => (hKl i (by omega)).2)
      have hne := h.1.1.2.2.2.2.2.1.1
      generalize hf : σ (14 + 2 * s + 1) = f at *
      have es : ∀ k, eK σ f (k + 1) = ea (eK σ f k) (f (3 * k)) (f (3 * k + 1)) (f (3 * k + 2)) := fun _ => rfl
      have rs : ∀ k, rK τ (bs_ne σ) f (k + 1) = ra (rK τ (bs_ne σ) f k) (bs_ne σ + k) (f (3 * k)) (f (3 * k + 1)) (f (3 * k + 2)) := fun _ => rfl
      have i1 : ∀ k, nI (3 * k) + 1 = nI (3 * k + 1) := fun k => nI_1 _
      have i2 : ∀ k, nI (3 * k) + 2 = nI (3 * k + 2) := fun k => by rw [pz_2, nI_add]
      intro P hP
      refine c_isSheet (fun _ => br1' ⟨vp4 hs, ?_⟩) (fun q => absurd b q)
      rw [cl]
      refine c_there hn e1 (br0 ?_)
      simp only [bk_lt_iff, bk_jn_iff]
      have fin := hP (nI K) (eK σ f K) (inv K (Nat.le_refl _)).1.1 (fun Q hQ => by
        refine m_isSheet (fun _ => br1' ⟨vp4 hs, ?_⟩) (fun q => absurd b q)
        rw [cl]
        simp only [bk_lt_iff]
        refine ⟨fun _ => ?_, fun q => absurd q e2⟩
        have e60 : (60 : Int32) * nI s = nI (60 * s) := by rw [pz_60, pz_mulr]
        have e3k : ∀ k, (3 : Int32) * nI k = nI (3 * k) := fun k => by rw [pz_3, pz_mulr]
        have j0 : ∀ k, nI (60 * s) + nI (3 * k) = nI (60 * s + 3 * k) := fun k => nI_add _ _
        have j1 : ∀ k, nI (60 * s + 3 * k) + 1 = nI (60 * s + (3 * k + 1)) := fun k => by rw [nI_1]; congr 1
        have j2 : ∀ k, nI (60 * s + 3 * k) + 2 = nI (60 * s + (3 * k + 2)) := fun k => by rw [pz_2, nI_add]; congr 1
        have step : ∀ (k : Nat) (K2 : Int32 × bk_S → Prop), k ≤ K → 3 * k + 2 < n → (k < K → K2 (nI (k + 1), rK τ (bs_ne σ) f (k + 1))) → (vp_in (nI (60 * s + 3 * k)) 240 ∧ vp_in (nI (60 * s + (3 * k + 1))) 240 ∧ vp_in (nI (60 * s + (3 * k + 2))) 240 ∧ w_X9_event (rK τ (bs_ne σ) f k 55 (60 * s + 3 * k)) (rK τ (bs_ne σ) f k 55 (60 * s + (3 * k + 1))) (rK τ (bs_ne σ) f k 55 (60 * s + (3 * k + 2))) (rK τ (bs_ne σ) f k) (fun r6 σ7 => (r6 ≤ 0 → Q (nI k) σ7) ∧ (¬ r6 ≤ 0 → K2 (nI k + 1, σ7)))) := by
          intro k K2 hk h3 hK2
          obtain ⟨R, nn, ee, rr⟩ := inv k hk
          have h8 : rK τ (bs_ne σ) f k 0 8 = nI (bs_ne σ + k) := by rw [R.2.2.2.2.2.1, ← nn]; exact R.1.1.2.2.2.2.2.1.2
          have hle : bs_ne σ + k ≤ 8 := by rw [← nn]; exact R.1.1.2.2.2.2.2.1.1
          rw [rr 55 (by omega), e5 _ (by omega), e5 _ (by omega), e5 _ (by omega)]
          refine ⟨(pz_in (by omega)).mpr (by omega), (pz_in (by omega)).mpr (by omega), (pz_in (by omega)).mpr (by omega), ?_⟩
          have stay : ¬ k < K → Q (nI k) (rK τ (bs_ne σ) f k) := fun q => by
            obtain rfl : k = K := by omega
            exact hQ _ R.2
          refine m_event hle h8 (fun o lt => ⟨fun q => absurd q (nI_nle (by omega) (by omega)), fun _ => ?_⟩) (fun o e => ⟨fun _ => stay ?_, fun q => absurd (by decide) q⟩) (fun o => ⟨fun _ => stay ?_, fun q => absurd (by decide) q⟩)
          · rw [nI_1]
            refine hK2 ?_
            rcases Nat.lt_or_ge k K with q | q
            · exact q
            · obtain rfl : k = K := by omega
              exact absurd ⟨h3, o, lt⟩ hKn
          · intro q; have := (hKl k q).2.2; omega
          · intro q; exact o (hKl k q).2.1
        refine bk_loop_up K (fun k (_ : Unit) => (nI k, rK τ (bs_ne σ) f k)) (fun _ _ => True) (i0 := 0) (b0 := ()) rfl (Nat.zero_le _) trivial ?_ ?_
        · intro k _ K2 hk _ hK2
          obtain ⟨R, nn, ee, rr⟩ := inv k (by omega)
          have h3 : 3 * k + 2 < n := (hKl k hk).1
          simp only [e60, e3k, j0, j1, j2, i2, nI_clamp (show 60 * s + 3 * k < 2 ^ 31 by omega), nI_clamp (show 60 * s + (3 * k + 1) < 2 ^ 31 by omega), nI_clamp (show 60 * s + (3 * k + 2) < 2 ^ 31 by omega), rr 54 (by omega), e4]
          refine ⟨vp4 hs, fun hle => absurd ((nI_leI (by omega) (by omega)).mp hle) (by omega), fun _ => step k K2 (by omega) h3 (fun _ => hK2 () trivial)⟩
        · intro _ K2 _
          obtain ⟨R, nn, ee, rr⟩ := inv K (Nat.le_refl _)
          simp only [e60, e3k, j0, j1, j2, i2, nI_clamp (show 60 * s + 3 * K < 2 ^ 31 by omega), nI_clamp (show 60 * s + (3 * K + 1) < 2 ^ 31 by omega), nI_clamp (show 60 * s + (3 * K + 2) < 2 ^ 31 by omega), rr 54 (by omega), e4]
          refine ⟨vp4 hs, fun _ => hQ _ R.2, fun hn' => step K K2 (Nat.le_refl _) ?_ (fun q => absurd q (Nat.lt_irrefl _))⟩
          rcases Nat.lt_or_ge (3 * K + 2) n with q | q
          · exact q
          · exact absurd ((nI_leI (by omega) (by omega)).mpr q) hn')
      have step : ∀ (k : Nat) (K2 : Int32 × Int32 × bk_S → Prop), k ≤ K → 3 * k + 2 < n → (k < K → K2 (nI (k + 1), nI (3 * (k + 1)), eK σ f (k + 1))) → (vp_in (nI (3 * k)) 60 ∧ vp_in (nI (3 * k + 1)) 60 ∧ vp_in (nI (3 * k + 2)) 60 ∧ w_X8_event (eK σ f k (14 + 2 * s + 1) (3 * k)) (eK σ f k (14 + 2 * s + 1) (3 * k + 1)) (eK σ f k (14 + 2 * s + 1) (3 * k + 2)) (eK σ f k) (fun r10 σ11 => (0 ≤ r10 → K2 (nI k + 1, nI (3 * k) + 3, σ11)) ∧ (¬ 0 ≤ r10 → P (nI k) σ11))) := by
        intro k K2 hk h3 hK2
        obtain ⟨R, nn, ee, rr⟩ := inv k hk
        have hle : bs_ne σ + k ≤ 8 := by rw [← nn]; exact R.1.1.2.2.2.2.2.1.1
        rw [ee _ (by omega), hf]
        refine ⟨(pz_in (by omega)).mpr (by omega), (pz_in (by omega)).mpr (by omega), (pz_in (by omega)).mpr (by omega), ?_⟩
        have stay : ¬ k < K → P (nI k) (eK σ f k) := fun q => by
          obtain rfl : k = K := by omega
          exact fin
        refine c_event R.1.1 (fun o lt => ⟨fun _ => ?_, fun q => absurd (nI_pos' (by omega)) q⟩) (fun o e => ⟨fun q => absurd q (by decide), fun _ => stay ?_⟩) (fun o => ⟨fun q => absurd q (by decide), fun _ => stay ?_⟩)
        · have e33 : nI (3 * k) + 3 = nI (3 * (k + 1)) := by rw [pz_3, nI_add]; congr 1
          rw [nI_1, e33]
          refine hK2 ?_
          rcases Nat.lt_or_ge k K with q | q
          · exact q
          · obtain rfl : k = K := by omega
            rw [nn] at lt
            exact absurd ⟨h3, o, lt⟩ hKn
        · intro q; have := (hKl k q).2.2; omega
        · intro q; exact o (hKl k q).2.1
      refine bk_loop_up K (fun k (_ : Unit) => (nI k, nI (3 * k), eK σ f k)) (fun _ _ => True) (i0 := 0) (b0 := ()) rfl (Nat.zero_le _) trivial ?_ ?_
      · intro k _ K2 hk _ hK2
        obtain ⟨R, nn, ee, rr⟩ := inv k (by omega)
        have h3 : 3 * k + 2 < n := (hKl k hk).1
        simp only [i1, i2, nI_clamp (show 3 * k < 2 ^ 31 by omega), nI_clamp (show 3 * k + 1 < 2 ^ 31 by omega), nI_clamp (show 3 * k + 2 < 2 ^ 31 by omega)]
        rw [ee (14 + 2 * s) (by omega), e1]
        exact ⟨fun hle => absurd ((nI_leI (by omega) (by omega)).mp hle) (by omega), fun _ => step k K2 (by omega) h3 (fun _ => hK2 () trivial)⟩
      · intro _ K2 _
        obtain ⟨R, nn, ee, rr⟩ := inv K (Nat.le_refl _)
        simp only [i1, i2, nI_clamp (show 3 * K < 2 ^ 31 by omega), nI_clamp (show 3 * K + 1 < 2 ^ 31 by omega), nI_clamp (show 3 * K + 2 < 2 ^ 31 by omega)]
        rw [ee (14 + 2 * s) (by omega), e1]
        refine ⟨fun _ => fin, fun hn' => step K K2 (Nat.le_refl _) ?_ (fun q => absurd q (Nat.lt_irrefl _))⟩
        rcases Nat.lt_or_ge (3 * K + 2) n with q | q
        · exact q
        · exact absurd ((nI_leI (by omega) (by omega)).mpr q) hn'
  · exact stp.no (v := -2) h (fun P hP => c_isSheet (fun q => absurd q b) (fun _ => br0' hP)) (fun Q hQ => m_isSheet (fun q => absurd q b) (fun _ => br0' hQ))
