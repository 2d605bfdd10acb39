/-! The digest, of the class: plans and all. -/
theorem mt_nv_E {σ σ' : bk_S} (e : bs_E σ σ') : mt_nv σ' = mt_nv σ := by
  unfold mt_nv; rw [bs_ne_E e]; congr 1; funext i; rw [sn_E e, tp_E e]
theorem v_fault_E {σ σ' : bk_S} (e : bs_E σ σ') (x : Int32) : v_fault σ' x = v_fault σ x := by
  unfold v_fault bs_n0 bs_n1
  rw [e.1 1 (by omega) (by omega), e.1 2 (by omega) (by omega), e.1 3 (by omega) (by omega), e.1 4 (by omega) (by omega)]
theorem c_dPlans {h : Int64} {σ a : bk_S} {post : Int64 → bk_S → Prop} (d : dI σ a) (hp : ∀ b, cQ σ b → post (dPlans σ h) b) : w_X8_foldPlans h a post := by
  have et := d.p
  unfold w_X8_foldPlans
  simp only [bk_lt_iff]
  refine c_chooseSwap (tp_ok d.1.2.1 tA) d.2.1.1 (fun b t R => ?_)
  have d1 := d.t t
  rw [show tp a tA = tpA σ from et] at R
  unfold dPlans at hp
  refine bk_jn_of (fun x => x = dl (fun i => sv (mt_so (tpA σ) (mt_nt (tpA σ))) (nI i)) 4 h) (fun K hK => ?_) (fun x hx => ?_)
  · refine bk_loop_up 4 (fun i (_ : Unit) => (dl (fun i => sv (mt_so (tpA σ) (mt_nt (tpA σ))) (nI i)) i h, nI i)) (fun _ _ => True) (i0 := 0) (b0 := ()) rfl (Nat.zero_le _) trivial ?_ ?_
    · intro i _ K2 hi _ hK2
      have hK2 := hK2 () trivial
      refine ⟨fun hle => absurd ((nI_leI (a := 4) (by omega) (by omega)).mp hle) (by omega), fun _ => c_swapAnswer R ((bw_in (n := 4) (by omega)).mpr ⟨i, hi, rfl⟩) ?_⟩
      rw [nI_1]; exact hK2
    · intro _ K2 _
      exact ⟨fun _ => hK _ rfl, fun q => absurd (by show (4 : Int32) ≤ nI 4; decide) q⟩
  · subst hx
    generalize dl (fun i => sv (mt_so (tpA σ) (mt_nt (tpA σ))) (nI i)) 4 h = H at *
    refine c_fewestHooks (tp_ok d1.1.2.1 tA) d1.2.1.1 (fun c t2 => ?_)
    have d2 := d1.t t2
    refine c_chooseSpared d2.1.2.1 d2.2.1.1 d2.2.2.1 (fun e r3 R3 => ?_)
    have d3 : dI σ e := d2.t (fun k hk => r3 k (by omega))
    rw [sp_E d2.1.1] at R3
    refine c_spareAnswer R3 (Or.inl rfl) (c_spareAnswer R3 (Or.inr (Or.inl rfl)) ?_)
    rw [if_pos rfl, if_neg (show ¬ (0 : Int32) = -1 by decide), if_pos rfl]
    refine c_eventsThatNeverWere d3.1.2.1 d3.2.1.1 (fun g t4 => ?_)
    have d4 := d3.t t4
    refine c_runSeason (n := 6) (by omega) (tp_ok d4.1.2.1 tA) d4.2.1.1 (fun z t5 D5 => ?_)
    have d5 := d4.t t5
    refine c_hol D5 ?_
    rw [D5.2.2.2.2.2.2.2.2.2.1, mt_nv_E d3.1.1, show tp b tA = tpA σ from d1.p, show tp g tA = tpA σ from d4.p]
    exact hp z d5.1
theorem q_digest {σ : bk_S} {post : Int64 → bk_S → Prop} (hI : cI σ) (h : ∀ σ', cQ σ σ' → post (dg σ) σ') : w_X8_digest σ post := by
  have hok := tp_ok hI.1 tA
  have hnh : mt_nh (tpA σ) ≤ 12 := hok.nh.2
  have hnt : mt_nt (tpA σ) ≤ 8 := hok.nt.2
  unfold w_X8_digest
  refine c_start hI (fun a d => ?_)
  simp only [bk_lt_iff]
  unfold dg dStart at h
  refine bk_jn_of (fun x => x = (dl (fun i => v_count σ (nI i)) 8 17, a)) (fun K hK => ?_) (fun x hx => ?_)
  · refine bk_loop_up 8 (fun i (_ : Unit) => (dl (fun i => v_count σ (nI i)) i 17, nI i, a)) (fun _ _ => True) (i0 := 0) (b0 := ()) rfl (Nat.zero_le _) trivial ?_ ?_
    · intro i _ K2 hi _ hK2
      have hK2 := hK2 () trivial
      refine ⟨fun hlt => absurd ((nI_ltI (a := 7) (by omega) (by omega)).mp hlt) (by omega), fun _ => q_count' d.1.2 (fun b q f s => ?_)⟩
      have e : b = a := s d.2.2.2
      subst e
      rw [v_count_E d.1.1, nI_1]; exact hK2
    · intro _ K2 _
      exact ⟨fun _ => hK _ rfl, fun q => absurd (by show (7 : Int32) < nI 8; decide) q⟩
  · subst hx
    generalize dl (fun i => v_count σ (nI i)) 8 17 = H0 at *
    refine q_fault d.1.2.1 (q_fault d.1.2.1 ?_)
    rw [v_fault_E d.1.1, v_fault_E d.1.1]
    show bk_jn _ _
    have y0 : a 22 0 = nI (mt_nh (tpA σ)) := by rw [d.2.1.c0, d.p]; exact hok.nh.1
    have eh : (31 : Int64) * ((31 : Int64) * H0 + Int32.toInt64 (v_fault σ 0)) + Int32.toInt64 (v_fault σ 1) = dF (dF H0 (v_fault σ 0)) (v_fault σ 1) := rfl
    refine bk_jn_of (fun x => x = dn (dHook (tpA σ)) (mt_nh (tpA σ)) (dF (dF H0 (v_fault σ 0)) (v_fault σ 1))) (fun K hK => ?_) (fun x hx => ?_)
    · refine bk_loop_up (mt_nh (tpA σ)) (fun i (_ : Unit) => (dn (dHook (tpA σ)) i (dF (dF H0 (v_fault σ 0)) (v_fault σ 1)), nI i)) (fun _ _ => True) (i0 := 0) (b0 := ()) rfl (Nat.zero_le _) trivial ?_ ?_
      · intro i _ K2 hi _ hK2
        have hK2 := hK2 () trivial
        show (a 22 0 ≤ nI i → _) ∧ (¬ a 22 0 ≤ nI i → _)
        rw [y0]
        refine ⟨fun hle => absurd ((nI_leI (by omega) (by omega)).mp hle) (by omega), fun _ => c_dHook d.1.2.1 d.2.1 (by rw [d.p]; exact hi) ?_⟩
        rw [d.p, nI_1]; exact hK2
      · intro _ K2 _
        show (a 22 0 ≤ nI (mt_nh (tpA σ)) → _) ∧ (¬ a 22 0 ≤ nI (mt_nh (tpA σ)) → _)
        rw [y0]
        exact ⟨fun _ => hK _ rfl, fun q => absurd ((nI_leI (by omega) (by omega)).mpr (Nat.le_refl _)) q⟩
    · subst hx
      generalize dn (dHook (tpA σ)) (mt_nh (tpA σ)) (dF (dF H0 (v_fault σ 0)) (v_fault σ 1)) = H1 at *
      refine bk_jn_of (fun x => x.1 = dn (dEve σ) 12 H1 ∧ dI σ x.2) (fun K hK => ?_) (fun x hx => ?_)
      · refine bk_loop_up 12 (fun i (b : bk_S) => (dn (dEve σ) i H1, nI i, b)) (fun _ b => dI σ b) (i0 := 0) (b0 := a) rfl (Nat.zero_le _) d ?_ ?_
        · intro i b K2 hi db hK2
          refine ⟨fun hle => absurd ((nI_leI (a := 12) (by omega) (by omega)).mp hle) (by omega), fun _ => c_dEve db hi (fun c dc => ?_)⟩
          have hK2 := hK2 c dc
          rw [nI_1]; exact hK2
        · intro b K2 db
          exact ⟨fun _ => hK _ ⟨rfl, db⟩, fun q => absurd (by show (12 : Int32) ≤ nI 12; decide) q⟩
      · obtain ⟨x1, b⟩ := x
        obtain ⟨hx1, db⟩ := hx
        have hx1 : x1 = dn (dEve σ) 12 H1 := hx1
        have db : dI σ b := db
        subst hx1
        generalize dn (dEve σ) 12 H1 = H2 at *
        have y1 : ∀ c, dI σ c → c 22 1 = nI (mt_nt (tpA σ)) := fun c dc => by rw [dc.2.1.c1, dc.p]; exact hok.nt.1
        refine bk_jn_of (fun x => x.1 = dn (dThing σ) (mt_nt (tpA σ)) H2 ∧ dI σ x.2) (fun K hK => ?_) (fun x hx => ?_)
        · refine bk_loop_up (mt_nt (tpA σ)) (fun i (b : bk_S) => (dn (dThing σ) i H2, nI i, b)) (fun _ b => dI σ b) (i0 := 0) (b0 := b) rfl (Nat.zero_le _) db ?_ ?_
          · intro i c K2 hi dc hK2
            show (c 22 1 ≤ nI i → _) ∧ (¬ c 22 1 ≤ nI i → _)
            rw [y1 c dc]
            refine ⟨fun hle => absurd ((nI_leI (by omega) (by omega)).mp hle) (by omega), fun _ => c_dThing dc hi (fun c' dc' => ?_)⟩
            have hK2 := hK2 c' dc'
            rw [nI_1]; exact hK2
          · intro c K2 dc
            show (c 22 1 ≤ nI (mt_nt (tpA σ)) → _) ∧ (¬ c 22 1 ≤ nI (mt_nt (tpA σ)) → _)
            rw [y1 c dc]
            exact ⟨fun _ => hK _ ⟨rfl, dc⟩, fun q => absurd ((nI_leI (by omega) (by omega)).mpr (Nat.le_refl _)) q⟩
        · obtain ⟨x1, c⟩ := x
          obtain ⟨hx1, dc⟩ := hx
          have hx1 : x1 = dn (dThing σ) (mt_nt (tpA σ)) H2 := hx1
          have dc : dI σ c := dc
          subst hx1
          generalize dn (dThing σ) (mt_nt (tpA σ)) H2 = H3 at *
          exact c_dSums dc (c_dPlans dc h)
