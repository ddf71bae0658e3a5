section B7
variable {r n : Nat} {pt M b : Nat → Nat} {xrc xbc xfc xrn xra xfi xfp xgn xac xlr : Int32} {xhm : Int64} {xrp xrA xrB xrC xby xhd xst xbg xco xen xre xld xim xic xih xif xop xbp xbq xsc xna xhe xlo xsk : Nat → Int32} {yru ypl ynu yps yfi yac yre : Int32} {yme : Int64} {yrp yrq yrl yby yle ypr ywa ybp ybq ybo ysc yfn yat yhi ylo yen : Nat → Int32}
theorem x_f84z {post : Int32 → SX → Prop} {x1 x2 x5 : Int32} {c : Nat} (hc : c < 256) (k : post 0 (xrc, xbc, xfc, xrn, xra, xfi, xfp, xgn, xac, xlr, xhm, xrp, xrA, xrB, xrC, xby, xhd, xst, xbg, xco, xen, xre, xld, xim, xic, xih, xif, xop, xbp, xbq, xsc, xna, xhe, xlo, xsk)) : wX_follow_84 post x1 x2 (nI c) x5 0 xrc xbc xfc xrn xra xfi xfp xgn xac xlr xhm xrp xrA xrB xrC xby xhd xst xbg xco xen xre xld xim xic xih xif xop xbp xbq xsc xna xhe xlo xsk := by
  refine br_c (fun _ => ⟨ba_nb0, k⟩) fun _ => br_c (fun _ => ⟨ba_nb0, k⟩) fun _ => ?_
  exact x_sizeOf hc (nm_e (br_t rfl k))
theorem x_f84 {post : Int32 → SX → Prop} {f a h c : Nat} {E rl : Nat → Nat} (hn : n ≤ 120) (hF : pl_Fmt b n) (hf : f < pl_nf b) (hv : ∀ i, b i < 256) (hW : fl_WI b f c E rl) (hE : fl_EC (pl_s b f) (pl_e b f) c E rl xen xre) (hI : pl_IS b f a) (hc : ¬ pl_bad b f a) (hh : h ≤ 6)
    (kA : (b a = 10 ∨ b a = 16) → post 1 (xrc, xbc, xfc, nI c, xra, xfi, xfp, xgn, xac, xlr, xhm, xrp, xrA, xrB, xrC, xby, xhd, xst, xbg, xco, xen, xre, xld, xim, xic, xih, xif, xop, xbp, xbq, xsc, xna, xhe, xlo, xsk))
    (kB : b a ≠ 10 → b a ≠ 16 → ∀ (c' : Nat) (E' rl' : Nat → Nat) (xen xre : Nat → Int32), fl_WI b f c' E' rl' → fl_EC (pl_s b f) (pl_e b f) c' E' rl' xen xre → fl_XT c c' E E' rl rl' → a + pl_sz (b a) < pl_e b f → E' (a + pl_sz (b a)) = h + 1 → (∀ R : Nat → Nat → Prop, fl_SR b f R E → R (a + pl_sz (b a)) h → fl_SR b f R E') → post 1 (xrc, xbc, xfc, nI c', xra, xfi, xfp, xgn, xac, xlr, xhm, xrp, xrA, xrB, xrC, xby, xhd, xst, xbg, xco, xen, xre, xld, xim, xic, xih, xif, xop, xbp, xbq, xsc, xna, xhe, xlo, xsk))
    (kC : b a ≠ 10 → b a ≠ 16 → (∀ R : Nat → Nat → Prop, (∀ i h h', R i h → R i h' → h = h') → fl_SR b f R E → a + pl_sz (b a) < pl_e b f → ¬ R (a + pl_sz (b a)) h) → post 0 (xrc, xbc, xfc, nI c, xra, xfi, xfp, xgn, xac, xlr, xhm, xrp, xrA, xrB, xrC, xby, xhd, xst, xbg, xco, xen, xre, xld, xim, xic, xih, xif, xop, xbp, xbq, xsc, xna, xhe, xlo, xsk)) :
    wX_follow_84 post (nI a) (nI (pl_e b f)) (nI (b a)) (nI h) 1 xrc xbc xfc (nI c) xra xfi xfp xgn xac xlr xhm xrp xrA xrB xrC xby xhd xst xbg xco xen xre xld xim xic xih xif xop xbp xbq xsc xna xhe xlo xsk := by
  have v := hv a
  have he := pl_ef hF hf
  have nx := pl_nx hc hI.1
  have sa := pl_ISge hI
  refine pk_eq (b a) 10 (fun e => ⟨ba_nb1, kA (Or.inl e)⟩) fun e1 => pk_eq (b a) 16 (fun e => ⟨ba_nb1, kA (Or.inr e)⟩) fun e2 => ?_
  refine x_sizeOf v (nm_r (nI_add _ _) (br_f ba_10 ?_))
  refine x_reach (b := b) hn hF hf hW hE (by omega) (by omega) (fun z => pl_ISn hI z) hh (fun c' E' rl' xen xre h1 h2 h3 h4 h5 h6 => br_f ba_10 (kB e1 e2 c' E' rl' xen xre h1 h2 h3 h4 h5 h6)) fun z => br_t rfl (kC e1 e2 z)
theorem x_follow {post : Int32 → SX → Prop} {f a c : Nat} {E rl : Nat → Nat} (hn : n ≤ 120) (hF : pl_Fmt b n) (hf : f < pl_nf b) (h0 : ∀ f, f < pl_nf b → xhd f = nI (pl_hd b f)) (hb : ∀ i, i < 120 → xby i = nI (b i)) (hv : ∀ i, b i < 256)
    (hC : ∀ i, pl_IS b f i → ¬ pl_bad b f i) (hJ : ∀ i, pl_IS b f i → pl_jok b f i) (hW : fl_WI b f c E rl) (hE : fl_EC (pl_s b f) (pl_e b f) c E rl xen xre) (hI : pl_IS b f a) (hEa : 1 ≤ E a)
    (k1 : ∀ (c' : Nat) (E' rl' : Nat → Nat) (xen xre : Nat → Int32), fl_WI b f c' E' rl' → fl_EC (pl_s b f) (pl_e b f) c' E' rl' xen xre → fl_XT c c' E E' rl rl' → fl_CL b f E' a → (∀ R : Nat → Nat → Prop, pl_Good b f R → fl_SR b f R E → fl_SR b f R E') → post 1 (xrc, xbc, xfc, nI c', xra, xfi, xfp, xgn, xac, xlr, xhm, xrp, xrA, xrB, xrC, xby, xhd, xst, xbg, xco, xen, xre, xld, xim, xic, xih, xif, xop, xbp, xbq, xsc, xna, xhe, xlo, xsk))
    (k0 : (∀ R : Nat → Nat → Prop, pl_Good b f R → ¬ fl_SR b f R E) → ∀ (xrn : Int32) (xen xre : Nat → Int32), post 0 (xrc, xbc, xfc, xrn, xra, xfi, xfp, xgn, xac, xlr, xhm, xrp, xrA, xrB, xrC, xby, xhd, xst, xbg, xco, xen, xre, xld, xim, xic, xih, xif, xop, xbp, xbq, xsc, xna, xhe, xlo, xsk)) :
    wpX_follow post (xrc, xbc, xfc, nI c, xra, xfi, xfp, xgn, xac, xlr, xhm, xrp, xrA, xrB, xrC, xby, xhd, xst, xbg, xco, xen, xre, xld, xim, xic, xih, xif, xop, xbp, xbq, xsc, xna, xhe, xlo, xsk) (nI a) (nI (pl_e b f)) := by
  have v := hv a
  have he := pl_ef hF hf
  have sa := pl_ISge hI
  have la := hI.1
  have bad := hC a hI
  have c16 : b a ≤ 16 := by unfold pl_bad at bad; omega
  have t2 := pl_tk2 hF bad
  have g2 := pl_gv2 (b a)
  have e7 := hW.2.2.2.1 a
  obtain ⟨h, eh⟩ : ∃ h, E a = h + 1 := ⟨E a - 1, by omega⟩
  have Ra : ∀ R : Nat → Nat → Prop, fl_SR b f R E → R a h := fun R hR => by
    have := hR a sa la hEa
    rw [eh] at this
    exact this
  have ex : xen a = nI h := by rw [hE.1 a sa la, eh, nI_pred]
  have V : vp_in (nI a) 120 := vp_in_nI (by omega) (by omega)
  unfold wpX_follow
  dsimp only
  rw [nI_clamp (by omega), hb a (by omega), ex]
  refine ⟨V, nm_e ?_⟩
  refine x_taken (b := b) hn hF hf h0 hb hv la bad ⟨V, ?_⟩
  refine x_given c16 ?_
  by_cases z1 : h < pl_tk b a
  · refine nm_e ⟨V, br_t (nI_lt z1 (by omega)) (k0 (fun R hG hR => ?_) _ _ _)⟩
    have := (hG.2.2 a h (Ra R hR)).1
    omega
  refine nm_r (show _ = nI (h - pl_tk b a + pl_gv (b a)) by rw [pk_sub (by omega), nI_add]) ⟨V, br_f (nI_nlt (by omega) (by omega)) ?_⟩
  by_cases z2 : h - pl_tk b a + pl_gv (b a) ≤ 6
  case neg =>
    refine br_f (nI_ge (a := 6) (by omega) (by omega)) (k0 (fun R hG hR => ?_) _ _ _)
    have := (hG.2.2 a h (Ra R hR)).2.1
    omega
  refine br_t (nI_le (b := 6) z2 (by decide)) ?_
  have hh1 : E a - 1 = h := by omega
  refine x_isJump v (fun j => br_f ba_10 ?_) fun j => br_t rfl ?_
  · obtain ⟨t, et, st, ist⟩ := hJ a hI j
    have hw : a + 1 < pl_e b f := pl_wide bad (pl_sz2.mpr (by omega))
    have tl := ist.1
    refine x_targetB (b := b) (by omega) hb hv fun T hT => ?_
    have eT := tg_n (hT.trans et) (by omega)
    subst eT
    have Rt : ∀ R : Nat → Nat → Prop, pl_Good b f R → fl_SR b f R E → R t (h - pl_tk b a + pl_gv (b a)) := fun R hG hR => by
      obtain ⟨t', q1, q2, q3, q4⟩ := (hG.2.2 a h (Ra R hR)).2.2.1 j
      have : t = t' := by omega
      subst this
      exact q4
    refine x_reach (b := b) hn hF hf hW hE st (by omega) (fun _ => ist) z2 (fun c1 E1 rl1 xen1 xre1 W1 C1 X1 _ E1t S1 => ?_) fun q => ?_
    · refine x_f84 (b := b) hn hF hf hv W1 C1 hI bad z2 (fun q => ?_) (fun q1 q2 c2 E2 rl2 xen2 xre2 W2 C2 X2 n2 E2n S2 => ?_) fun q1 q2 q3 => ?_
      · refine k1 c1 E1 rl1 xen1 xre1 W1 C1 X1 ?_ (fun R hG hR => S1 R hR (Rt R hG hR))
        unfold fl_CL
        rw [X1.2.1 a hEa, hh1]
        exact ⟨by omega, z2, fun _ => ⟨t, et, st, tl, E1t⟩, fun p1 p2 => by omega⟩
      · refine k1 c2 E2 rl2 xen2 xre2 W2 C2 (fl_XTr X1 X2) ?_ (fun R hG hR => S2 R (S1 R hR (Rt R hG hR)) ((hG.2.2 a h (Ra R hR)).2.2.2 q1 q2).2)
        unfold fl_CL
        rw [X2.2.1 a (by rw [X1.2.1 a hEa]; exact hEa), X1.2.1 a hEa, hh1]
        exact ⟨by omega, z2, fun _ => ⟨t, et, st, tl, by rw [X2.2.1 t (by omega)]; exact E1t⟩, fun _ _ => ⟨n2, E2n⟩⟩
      · refine k0 (fun R hG hR => ?_) _ _ _
        have G := (hG.2.2 a h (Ra R hR)).2.2.2 q1 q2
        exact q3 R hG.2.1 (S1 R hR (Rt R hG hR)) G.1 G.2
    · exact x_f84z v (k0 (fun R hG hR => q R hG.2.1 hR tl (Rt R hG hR)) _ _ _)
  · refine x_f84 (b := b) hn hF hf hv hW hE hI bad z2 (fun q => ?_) (fun q1 q2 c2 E2 rl2 xen2 xre2 W2 C2 X2 n2 E2n S2 => ?_) fun q1 q2 q3 => ?_
    · refine k1 c E rl xen xre hW hE fl_XT0 ?_ (fun R hG hR => hR)
      unfold fl_CL
      rw [hh1]
      exact ⟨by omega, z2, fun z => absurd z j, fun p1 p2 => by omega⟩
    · refine k1 c2 E2 rl2 xen2 xre2 W2 C2 X2 ?_ (fun R hG hR => S2 R hR ((hG.2.2 a h (Ra R hR)).2.2.2 q1 q2).2)
      unfold fl_CL
      rw [X2.2.1 a hEa, hh1]
      exact ⟨by omega, z2, fun z => absurd z j, fun _ _ => ⟨n2, E2n⟩⟩
    · refine k0 (fun R hG hR => ?_) _ _ _
      have G := (hG.2.2 a h (Ra R hR)).2.2.2 q1 q2
      exact q3 R hG.2.1 hR G.1 G.2
theorem x_flow {post : Int32 → SX → Prop} {f : Nat} (hn : n ≤ 120) (hF : pl_Fmt b n) (hf : f < pl_nf b) (h0 : ∀ f, f < pl_nf b → xhd f = nI (pl_hd b f)) (hb : ∀ i, i < 120 → xby i = nI (b i)) (hv : ∀ i, b i < 256)
    (hC : ∀ i, pl_IS b f i → ¬ pl_bad b f i) (hJ : ∀ i, pl_IS b f i → pl_jok b f i)
    (kok : pl_Flow b f → ∀ (xrn : Int32) (xen xre : Nat → Int32), post 1 (xrc, xbc, xfc, xrn, xra, xfi, xfp, xgn, xac, xlr, xhm, xrp, xrA, xrB, xrC, xby, xhd, xst, xbg, xco, xen, xre, xld, xim, xic, xih, xif, xop, xbp, xbq, xsc, xna, xhe, xlo, xsk)) (kbad : ¬ pl_Flow b f → ∀ (xrn : Int32) (xen xre : Nat → Int32), post 0 (xrc, xbc, xfc, xrn, xra, xfi, xfp, xgn, xac, xlr, xhm, xrp, xrA, xrB, xrC, xby, xhd, xst, xbg, xco, xen, xre, xld, xim, xic, xih, xif, xop, xbp, xbq, xsc, xna, xhe, xlo, xsk)) : wpX_flowHolds post (xrc, xbc, xfc, xrn, xra, xfi, xfp, xgn, xac, xlr, xhm, xrp, xrA, xrB, xrC, xby, xhd, xst, xbg, xco, xen, xre, xld, xim, xic, xih, xif, xop, xbp, xbq, xsc, xna, xhe, xlo, xsk) (nI f) := by
  have he := pl_ef hF hf
  have hh := pl_hf hF hf
  have hs : pl_s b f < pl_e b f := hh
  have h4 := hF.2.2.2.1
  have W : ∀ d dn c, ∀ (E rl : Nat → Nat) (xen xre : Nat → Int32), dn + d = 40 → fl_WI b f c E rl → fl_EC (pl_s b f) (pl_e b f) c E rl xen xre → E (pl_s b f) = 1 → (∀ i, i < dn → i < c → fl_CL b f E (rl i)) → (∀ R : Nat → Nat → Prop, pl_Good b f R → fl_SR b f R E) →
      wX_flowHolds_52 post (nI (pl_e b f)) (d + 1) 1 (nI dn) xrc xbc xfc (nI c) xra xfi xfp xgn xac xlr xhm xrp xrA xrB xrC xby xhd xst xbg xco xen xre xld xim xic xih xif xop xbp xbq xsc xna xhe xlo xsk := by
    intro d
    induction d with
    | zero =>
      intro dn c E rl xen xre hd hW hE hE0 hCL hR
      refine br_t (nI_le (a := 40) (by omega) (by omega)) ⟨ba_nb1, kok (fl_good hW hs hE0 fun i hi => hCL i (by have := hW.1; omega) hi) _ _ _⟩
    | succ d ih =>
      intro dn c E rl xen xre hd hW hE hE0 hCL hR
      have hc40 := hW.1
      refine br_f (nI_ge (b := 40) (by omega) (by decide)) (pk_le c dn (fun z => ⟨ba_nb1, kok (fl_good hW hs hE0 fun i hi => hCL i (by omega) hi) _ _ _⟩) fun z => br_f ba_10 ⟨vp_in_nI (by omega) (by omega), ?_⟩)
      rw [nI_clamp (by omega), hE.2 dn z]
      obtain ⟨q1, q2, q3⟩ := hW.2.1 dn z
      refine x_follow (b := b) hn hF hf h0 hb hv hC hJ hW hE q2 q3 (fun c' E' rl' xen' xre' W' C' X' L' S' => ?_) fun q xrn' xen' xre' => ?_
      · refine nm_r (nI_1 dn) (ih (dn + 1) c' E' rl' xen' xre' (by omega) W' C' (by rw [X'.2.1 _ (by omega)]; exact hE0) (fun i h1 h2 => ?_) fun R hG => S' R hG (hR R hG))
        by_cases e : i = dn
        · subst e; rw [X'.2.2 i z]; exact L'
        · rw [X'.2.2 i (by omega)]
          exact fl_CLx X' (hW.2.1 i (by omega)).2.2 (hCL i (by omega) (by omega))
      · have nf : ¬ pl_Flow b f := fun ⟨R, hG⟩ => q R hG (hR R hG)
        have K := kbad nf xrn' xen' xre'
        refine nm_r (nI_1 dn) ?_
        refine br_c (fun _ => ⟨ba_nb0, K⟩) fun _ => br_c (fun _ => ⟨ba_nb0, K⟩) fun _ => br_t rfl ⟨ba_nb0, K⟩
  unfold wpX_flowHolds
  dsimp only
  refine x_codeFirst (b := b) (by omega) (h0 f hf) ?_
  refine x_codeEnd (b := b) (by omega) (h0 f hf) (by omega) hb ?_
  have Z : ∀ d a, ∀ xen : Nat → Int32, a + d = pl_e b f → pl_s b f ≤ a → (∀ j, pl_s b f ≤ j → j < a → xen j = -1) → wX_flowHolds_15 post (nI (pl_s b f)) (nI (pl_e b f)) xrc xbc xfc xrn xra xfi xfp xgn xac xlr xhm (d + 1) (nI a) xrp xrA xrB xrC xby xhd xst xbg xco xen xre xld xim xic xih xif xop xbp xbq xsc xna xhe xlo xsk := by
    intro d
    induction d with
    | zero =>
      intro a xen ha h1 h2
      refine br_t (nI_le (by omega) (by omega)) ?_
      have c0 : ∀ s d, fl_cn (fun _ => 0) s d = 0 := by
        intro s d
        induction d with
        | zero => rfl
        | succ d ih => show fl_cn _ s d + _ = 0; rw [ih]; rfl
      refine x_reach (b := b) (f := f) (c := 0) (h := 0) (E := fun _ => 0) (rl := fun _ => 0) hn hF hf ⟨by omega, fun i hi => absurd hi (by omega), fun a _ _ h => absurd h (by show ¬ 1 ≤ 0; omega), fun _ => Nat.zero_le _, (c0 _ _).symm⟩ ⟨fun j g1 g2 => ?_, fun i hi => absurd hi (by omega)⟩ (Nat.le_refl _) (by omega) (fun _ => pl_IS0 (hF.2.2.2.2.1 f hf).2.2.1) (by omega) (fun c' E' rl' xen' xre' W' C' X' _ g5 g6 => ?_) fun q => ?_
      · rw [h2 j g1 (by omega)]; show (-1 : Int32) = nI 0 - 1; decide
      · exact ⟨41, W 40 0 c' E' rl' xen' xre' rfl W' C' g5 (fun i hi => absurd hi (by omega)) fun R hG => g6 R (fun a _ _ h => absurd h (by show ¬ 1 ≤ 0; omega)) hG.1⟩
      · exact (q (fun a h => a = pl_s b f ∧ h = 0) (fun i h h' p1 p2 => by omega) (fun a _ _ h => absurd h (by show ¬ 1 ≤ 0; omega)) hs ⟨rfl, rfl⟩).elim
    | succ d ih =>
      intro a xen ha h1 h2
      refine br_f (nI_ge (by omega) (by omega)) ⟨vp_in_nI (by omega) (by omega), nm_r (show _ = upd xen a (-1) by rw [nI_clamp (by omega)]) (nm_r (nI_1 a) (ih (a + 1) _ (by omega) (by omega) fun j g1 g2 => ?_))⟩
      by_cases e : j = a
      · subst e; exact pk_us
      · rw [pk_un e]; exact h2 j g1 (by omega)
  exact ⟨_, Z (pl_e b f - pl_s b f) (pl_s b f) xen (by omega) (Nat.le_refl _) fun j g1 g2 => absurd g1 (by omega)⟩
theorem x_flows {post : SX → Prop} (hn : n ≤ 120) (hF : pl_Fmt b n) (h0 : ∀ f, f < pl_nf b → xhd f = nI (pl_hd b f)) (hb : ∀ i, i < 120 → xby i = nI (b i)) (hv : ∀ i, b i < 256)
    (hC : ∀ f, f < pl_nf b → ∀ i, pl_IS b f i → ¬ pl_bad b f i) (hJ : ∀ f, f < pl_nf b → ∀ i, pl_IS b f i → pl_jok b f i)
    (kbad : ∀ f, f < pl_nf b → ¬ pl_Flow b f → (∀ g, g < f → pl_Flow b g) → ∀ (xrn : Int32) (xen xre : Nat → Int32), post (xrc, xbc, nI (pl_nf b), xrn, xra, nI 6, nI (pl_s b f), xgn, xac, xlr, xhm, xrp, xrA, xrB, xrC, xby, xhd, xst, xbg, xco, xen, xre, xld, xim, xic, xih, xif, xop, xbp, xbq, xsc, xna, xhe, xlo, xsk))
    (kok : (∀ f, f < pl_nf b → pl_Flow b f) → ∀ (xrn : Int32) (xen xre : Nat → Int32), post (xrc, xbc, nI (pl_nf b), xrn, xra, 0, xfp, xgn, xac, xlr, xhm, xrp, xrA, xrB, xrC, xby, xhd, xst, xbg, xco, xen, xre, xld, xim, xic, xih, xif, xop, xbp, xbq, xsc, xna, xhe, xlo, xsk)) :
    wpX_checkFlows post (xrc, xbc, nI (pl_nf b), xrn, xra, 0, xfp, xgn, xac, xlr, xhm, xrp, xrA, xrB, xrC, xby, xhd, xst, xbg, xco, xen, xre, xld, xim, xic, xih, xif, xop, xbp, xbq, xsc, xna, xhe, xlo, xsk) := by
  have h4 := hF.2.2.2.1
  have O : ∀ d f, ∀ (xrn : Int32) (xen xre : Nat → Int32), f + d = pl_nf b → (∀ g, g < f → pl_Flow b g) → wX_checkFlows_2 post (d + 1) (nI f) xrc xbc (nI (pl_nf b)) xrn xra 0 xfp xgn xac xlr xhm xrp xrA xrB xrC xby xhd xst xbg xco xen xre xld xim xic xih xif xop xbp xbq xsc xna xhe xlo xsk := by
    intro d
    induction d with
    | zero =>
      intro f xrn xen xre hf hg
      have : f = pl_nf b := by omega
      subst this
      exact br_t (nI_le (Nat.le_refl _) (by omega)) (kok hg _ _ _)
    | succ d ih =>
      intro f xrn xen xre hf hg
      refine br_f (nI_ge (by omega) (by omega)) (br_t rfl ?_)
      refine x_flow (b := b) hn hF (by omega) h0 hb hv (hC f (by omega)) (hJ f (by omega)) (fun q xrn' xen' xre' => br_f ba_10 ?_) fun q xrn' xen' xre' => br_t rfl ?_
      · refine nm_r (nI_1 f) (ih (f + 1) xrn' xen' xre' (by omega) fun g hg' => ?_)
        by_cases e : g = f
        · subst e; exact q
        · exact hg g (by omega)
      · refine x_codeFirst (b := b) (by omega) (h0 f (by omega)) ?_
        refine nm_r (nI_1 f) ?_
        have K := kbad f (by omega) q hg xrn' xen' xre'
        cases d with
        | zero => exact br_t (nI_le (by omega) (by omega)) K
        | succ d => exact br_f (nI_ge (by omega) (by omega)) (br_f (by decide) K)
  exact ⟨_, O (pl_nf b) 0 xrn xen xre (by omega) fun g hg => absurd hg (by omega)⟩
end B7
