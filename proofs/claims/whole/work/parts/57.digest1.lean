/-! The digest, of the class. -/
def dF (h : Int64) (v : Int32) : Int64 := ((31 : Int64) * h) + Int32.toInt64 v
def dl (g : Nat → Int32) : Nat → Int64 → Int64
  | 0, h => h
  | n + 1, h => dF (dl g n h) (g n)
def dn (f : Nat → Int64 → Int64) : Nat → Int64 → Int64
  | 0, h => h
  | n + 1, h => f n (dn f n h)
def dHook (p : bk_S) (j : Nat) (h : Int64) : Int64 := dF (dF (dF (dF h (p 1 j)) (mt_ev p 0 4 j)) (mt_ev p 3 4 j)) (mt_ev p 11 4 j)
def dEve (σ : bk_S) (e : Nat) (h : Int64) : Int64 := dl (fun i => v_lv σ e (nI i)) 3 (dl (fun i => mt_ev (tpA σ) e 5 i) 4 h)
def dHeat (p : bk_S) (e j : Nat) (h : Int64) : Int64 := dF (dF h (mt_ev p e 0 j)) (mt_ev p e 3 j)
def dThing1 (p : bk_S) (j : Nat) (h : Int64) : Int64 := dF (dF (dHeat p 11 j (dHeat p 4 j (dHeat p 0 j (dF (dF (dF h (p 2 j)) (p 3 j)) (p 4 j))))) (mt_ev p 11 1 j)) (mt_ev p 11 2 j)
def dThing (σ : bk_S) (j : Nat) (h : Int64) : Int64 := (31 : Int64) * ((31 : Int64) * dF (dF (dF (dThing1 (tpA σ) j h) (mt_hb σ (tpA σ) j)) (mt_ss σ (tpA σ) j)) (v_askOf σ j) + ck_v σ 5 j 0) + ck_v σ 5 j 1
def dSums (σ : bk_S) (h : Int64) : Int64 := dF (dF (dF (dl (fun i => v_sums σ (nI i)) 4 h) (v_peace σ)) (v_longest σ)) (v_sore σ)
def dPlans (σ : bk_S) (h : Int64) : Int64 := dF (dF (dF (dF (dF (dF (dl (fun i => sv (mt_so (tpA σ) (mt_nt (tpA σ))) (nI i)) 4 h) (v_fit σ)) (sp σ).1) (sp σ).2.1) (mt_nv σ)) (mt_cnt (sd_p (tpA σ) 7 6))) (mt_hol (sd_p (tpA σ) 7 6))
def dStart (σ : bk_S) : Int64 := dF (dF (dl (fun i => v_count σ (nI i)) 8 17) (v_fault σ 0)) (v_fault σ 1)
def dg (σ : bk_S) : Int64 := dPlans σ (dSums σ (dn (dThing σ) (mt_nt (tpA σ)) (dn (dEve σ) 12 (dn (dHook (tpA σ)) (mt_nh (tpA σ)) (dStart σ)))))
theorem fr_E.t {σ σ' : bk_S} (h : fr_E σ) (f : tf_F σ σ') : fr_E σ' := by
  unfold fr_E at *
  rw [bs_ne_E f.E, f 64 (by omega)]
  intro w hw
  rw [tp_E f.E, tp_E f.E]; exact h w hw
def dI (σ a : bk_S) : Prop := cQ σ a ∧ fr_T a ∧ fr_E a ∧ a 0 13 = 0
theorem dI.t {σ a b : bk_S} (h : dI σ a) (f : tf_F a b) : dI σ b := ⟨h.1.t h.2.1 f, h.2.1.t f, h.2.2.1.t f, by rw [f 0 (by omega)]; exact h.2.2.2⟩
theorem dI.p {σ a : bk_S} (h : dI σ a) : tpA a = tpA σ := tp_E h.1.1 tA
theorem c_start {σ : bk_S} {post : bk_S → Prop} (hI : cI σ) (h : ∀ a, dI σ a → post a) : w_X8_refresh σ (fun σ1 => w_X8_refreshEnds σ1 post) :=
  c_refresh hI.1 hI.2.1 (fun σ1 e h13 h14 h64 f => by
    have q1 : cQ σ σ1 := ⟨e, hI.1.E e, fun _ => f, hI.2.2.same e h14 h64⟩
    refine c_refreshEnds q1.2.1 f.1 q1.2.2.2 (fun σ2 r c _ fE => ?_)
    obtain ⟨q2, f2⟩ := q1.ends f r c fE
    exact h σ2 ⟨q2, f2, fE, by rw [c 13 (by omega)]; exact h13⟩)
theorem c_dHook {h : Int64} {j : Nat} {a : bk_S} {post : Int64 → Prop} (hi : ib a) (f : fr_T a) (hj : j < mt_nh (tpA a)) (hp : post (dHook (tpA a) j h)) : w_X8_foldHook h (nI j) a post := by
  have hnh : mt_nh (tpA a) ≤ 12 := (tp_ok hi tA).nh.2
  unfold w_X8_foldHook
  simp only [bk_lt_iff]
  have e36 : (36 : Int32) + nI j = nI (36 + j) := nI_add 36 j
  have e132 : (132 : Int32) + nI j = nI (132 + j) := nI_add 132 j
  rw [e36, e132, nI_clamp (show j < 2 ^ 31 by omega), nI_clamp (show 36 + j < 2 ^ 31 by omega), nI_clamp (show 132 + j < 2 ^ 31 by omega)]
  have v1 : a (22 + 1) j = tpA a 1 j := f.1.2.2.1 j hj
  have v2 : a (36 + 7) j = mt_ev (tpA a) 0 4 j := by have := f.2.2.2.1 0 j (by omega) (by omega); rwa [show 0 * 12 + j = j by omega] at this
  have v3 : a (36 + 7) (36 + j) = mt_ev (tpA a) 3 4 j := f.2.2.2.1 3 j (by omega) (by omega)
  have v4 : a (36 + 7) (132 + j) = mt_ev (tpA a) 11 4 j := f.2.2.2.1 11 j (by omega) (by omega)
  rw [v1, v2, v3, v4]
  exact ⟨(pz_in (by omega)).mpr (by omega), (pz_in (by omega)).mpr (by omega), (pz_in (by omega)).mpr (by omega), (pz_in (by omega)).mpr (by omega), hp⟩
theorem c_dEve {h : Int64} {e : Nat} {σ a : bk_S} {post : Int64 → bk_S → Prop} (d : dI σ a) (he : e < 12) (hp : ∀ b, dI σ b → post (dEve σ e h) b) : w_X8_foldEvening h (nI e) a post := by
  have et := d.p
  unfold w_X8_foldEvening
  simp only [bk_lt_iff]
  refine bk_jn_of (fun x => x = dl (fun i => mt_ev (tpA σ) e 5 i) 4 h) (fun K hK => ?_) (fun x hx => ?_)
  · refine bk_loop_up 4 (fun i (_ : Unit) => (dl (fun i => mt_ev (tpA σ) e 5 i) i h, nI i)) (fun _ _ => True) (i0 := 0) (b0 := ()) rfl (Nat.zero_le _) trivial ?_ ?_
    · intro i _ K2 hi _ hK2
      have hK2 := hK2 () trivial
      refine ⟨fun hle => absurd ((nI_leI (a := 4) (by omega) (by omega)).mp hle) (by omega), fun _ => c_eveningAnswer d.2.1.2 he hi ?_⟩
      rw [show tp a tA = tpA σ from et, nI_1]; exact hK2
    · intro _ K2 _
      exact ⟨fun _ => hK _ rfl, fun q => absurd (by show (4 : Int32) ≤ nI 4; decide) q⟩
  · subst hx
    refine c_chooseLeft he (tp_ok d.1.2.1 tA) d.2.1.1 (fun b t R => ?_)
    have hp := hp b (d.t t)
    unfold dEve at hp
    generalize dl (fun i => mt_ev (tpA σ) e 5 i) 4 h = H at *
    refine bk_loop_up 3 (fun i (_ : Unit) => (dl (fun i => v_lv σ e (nI i)) i H, nI i)) (fun _ _ => True) (i0 := 0) (b0 := ()) rfl (Nat.zero_le _) trivial ?_ ?_
    · intro i _ K2 hi _ hK2
      have hK2 := hK2 () trivial
      refine ⟨fun hle => absurd ((nI_leI (a := 3) (by omega) (by omega)).mp hle) (by omega), fun _ => ?_⟩
      obtain ⟨-, -, r1, r2, r3, r4⟩ := R
      rw [show tp a tA = tpA σ from et] at r1 r3 r4
      unfold w_X0_leaveAnswer
      rw [r1, r3, r4, nI_1]
      have hK2 : K2 (dF (dl (fun i => v_lv σ e (nI i)) i H) (v_lv σ e (nI i)), nI (i + 1)) := hK2
      unfold v_lv at hK2 ⊢
      refine ⟨fun e0 => ⟨fun e1 => ?_, fun e1 => ?_⟩, fun e0 => ?_⟩
      · rw [if_neg e0, if_neg e1] at hK2; exact hK2
      · rw [if_neg e0, if_pos e1] at hK2; exact hK2
      · rw [if_pos e0] at hK2; exact hK2
    · intro _ K2 _
      exact ⟨fun _ => hp, fun q => absurd (by show (3 : Int32) ≤ nI 3; decide) q⟩
theorem c_dHeat {h : Int64} {e j : Nat} {a : bk_S} {post : Int64 → Prop} (hi : ib a) (f : fr_T a) (he : e < 12) (hj : j < mt_nt (tpA a)) (hp : post (dHeat (tpA a) e j h)) : w_X8_foldHeat h (nI (e * 8 + j)) a post := by
  have hnt : mt_nt (tpA a) ≤ 8 := (tp_ok hi tA).nt.2
  unfold w_X8_foldHeat
  simp only [bk_lt_iff]
  rw [nI_clamp (by omega), f.2.1 e j he hj, f.2.2.1 e j he (by omega)]
  exact ⟨(pz_in (by omega)).mpr (by omega), (pz_in (by omega)).mpr (by omega), hp⟩
theorem c_dThing {h : Int64} {j : Nat} {σ a : bk_S} {post : Int64 → bk_S → Prop} (d : dI σ a) (hj : j < mt_nt (tpA σ)) (hp : ∀ b, dI σ b → post (dThing σ j h) b) : w_X8_foldThing h (nI j) a post := by
  have et := d.p
  have hi := d.1.2.1
  have f := d.2.1
  have hj' : j < mt_nt (tpA a) := by rw [et]; exact hj
  have hnt : mt_nt (tpA a) ≤ 8 := (tp_ok hi tA).nt.2
  have hv : vp_in (nI j) 8 := (pz_in (by omega)).mpr (by omega)
  unfold w_X8_foldThing
  simp only [bk_lt_iff]
  have e32 : (32 : Int32) + nI j = nI (4 * 8 + j) := nI_add 32 j
  have e88 : (88 : Int32) + nI j = nI (11 * 8 + j) := nI_add 88 j
  have e0 : nI j = nI (0 * 8 + j) := by congr 1; omega
  rw [nI_clamp (show j < 2 ^ 31 by omega), f.1.2.2.2.1 j hj', f.1.2.2.2.2.1 j hj', f.1.2.2.2.2.2.1 j hj', f.2.2.2.2.2.2.2.2.1 j (by omega), f.2.2.2.2.2.2.2.2.2.1 j (by omega), e32, e88]
  refine ⟨hv, hv, hv, ?_⟩
  have A := fun (h : Int64) (post : Int64 → Prop) (hp : post (dHeat (tpA a) 0 j h)) => c_dHeat (h := h) hi f (show 0 < 12 by omega) hj' hp
  rw [← e0] at A
  refine A _ _ (c_dHeat hi f (by omega) hj' (c_dHeat hi f (by omega) hj' ⟨hv, hv, ?_⟩))
  refine c_tryHeats hi (tp_ok hi tA) hj' f.1 (fun b t1 h61 h62 => ?_)
  have d1 := d.t t1
  refine c_sortsThatFit d1.1.2.1 (tp_ok d1.1.2.1 tA) (by show j < mt_nt (tpA b); rw [d1.p]; exact hj) d1.2.1.1 (fun c t2 hr => ?_)
  have d2 := d1.t t2
  refine c_eveningToAsk ?_
  have ea : mt_ak (fun e => mt_gl (c 61 0) (fun o d => c 62 (o * 12 + d)) e 10) 11 = mt_ak (fun e => mt_gl (mt_hb a (tpA a) j) (mt_hs (tpA a) j) e 10) 11 := by
    refine mt_ak_congr 11 (fun e he => ?_)
    rw [hr 61 (by omega), hr 62 (by omega), h61]
    exact mt_gl_congr (fun o h1 h2 => h62 o e h1 (by omega) (by omega)) 10 (by omega)
  rw [ea]
  refine c_chanceOf d2.1.2.1 (x := 5) (by omega) (by omega) d2.2.2.1 (c_chanceOf d2.1.2.1 (x := 5) (by omega) (by omega) d2.2.2.1 ?_)
  have hp := hp c d2
  have ek : ∀ r, ck_v c 5 j r = ck_v σ 5 j r := fun r => ck_v_E d2.1.1 5 j r
  have eh : b 61 0 = mt_hb σ (tpA σ) j := by rw [h61, mt_hb_E d.1.1, show tp a tA = tpA σ from et]
  have es : mt_ss b (tp b tA) j = mt_ss σ (tpA σ) j := by rw [mt_ss_E d1.1.1, show tp b tA = tpA σ from d1.p]
  have eq : nI (mt_ak (fun e => mt_gl (mt_hb a (tpA a) j) (mt_hs (tpA a) j) e 10) 11).1 = v_askOf σ j := by rw [← v_askOf_E d.1.1]; unfold v_askOf; rfl
  rw [ek, ek, eh, es, eq]
  unfold dThing dThing1 dF at hp
  unfold dHeat dF at *
  rw [← et] at hp ⊢
  exact hp
theorem c_dSums {h : Int64} {σ a : bk_S} {post : Int64 → Prop} (d : dI σ a) (hp : post (dSums σ h)) : w_X8_foldSums h a post := by
  have et := d.p
  have hok := tp_ok d.1.2.1 tA
  unfold w_X8_foldSums
  simp only [bk_lt_iff]
  unfold dSums at hp
  refine bk_jn_of (fun x => x = dl (fun i => v_sums σ (nI i)) 4 h) (fun K hK => ?_) (fun x hx => ?_)
  · refine bk_loop_up 4 (fun i (_ : Unit) => (dl (fun i => v_sums σ (nI i)) i h, nI i)) (fun _ _ => True) (i0 := 0) (b0 := ()) rfl (Nat.zero_le _) trivial ?_ ?_
    · intro i _ K2 hi _ hK2
      have hK2 := hK2 () trivial
      refine ⟨fun hle => absurd ((nI_leI (a := 4) (by omega) (by omega)).mp hle) (by omega), fun _ => c_sumAnswer d.2.1.2 ?_⟩
      rw [v_sums_E d.1.1, nI_1]; exact hK2
    · intro _ K2 _
      exact ⟨fun _ => hK _ rfl, fun q => absurd (by show (4 : Int32) ≤ nI 4; decide) q⟩
  · subst hx
    generalize dl (fun i => v_sums σ (nI i)) 4 h = H at *
    unfold w_X4_allThings
    rw [d.2.1.c1, show tpA a 0 1 = nI (mt_nt (tp a tA)) from hok.nt.1]
    refine c_firstPeace hok d.2.1.2.2.2.2.2.2.2.2.1 (c_thingSaidMost hok d.2.1.2.2.2.2.2.2.2.2.2.2.2 (c_unsettled d.1.2.1 d.2.1 ?_))
    rw [v_sore_E d.1.1, show tp a tA = tpA σ from et]
    exact hp
