section D7
variable {r n : Nat} {pt M b : Nat → Nat} {xrc xbc xfc xrn xra xfi xfp xgn xac xlr : Int32} {xhm : Int64} {xrp xrA xrB xrC xby xhd xst xbg xco xen xre xld xim xic xih xif xop xbp xbq xsc xna xhe xlo xsk : Nat → Int32} {yru ypl ynu yps yfi yac yre : Int32} {yme : Int64} {yrp yrq yrl yby yle ypr ywa ybp ybq ybo ysc yfn yat yhi ylo yen : Nat → Int32}
/-- what the induction gives -/
def rn_H (x p : Nat) (q0 : Nat → Int32) (M : Nat → Nat) (m : Nat) (xrc xbc xfc xrn xra xfi xfp xgn xac xlr : Int32) (xhm : Int64) (xrp xrA xrB xrC xby xhd xst xbg xco xen xre xld xim xic xih xif xop xbp xbq xsc xna xhe xlo xsk : Nat → Int32) (yru ypl ynu yps yfi yac yre : Int32) (yme : Int64) (yrp yrq yrl yby yle ypr ywa ybp ybq ybo ysc yfn yat yhi ylo yen : Nat → Int32) : Prop :=
  ∀ (t f a hh q st : Nat) (xhm : Int64) (xbq xsc xna xhe xlo xsk yfn yat yhi ylo yen : Nat → Int32), t < 6 → st + m ≤ 2000 → lv_W (re_b M p) p t xna xhe xlo xsk yfn yat yhi ylo yen → lv_A (re_b M p) p t f a hh xna xhe xlo xsk yfn yat yhi ylo yen → rr_R (re_b M p) f a hh →
    (∀ y, y ≠ x → xbq y = q0 y) → xbq x = nI q → q ≤ 2000 → q + pl_T (re_b M p) f a ≤ m →
    rn_E x p q0 m st xrc xbc xfc xrn xra xfi xfp xgn (nI (t + 1)) 0 xhm xrp xrA xrB xrC xby xhd xst xbg xco xen xre xld xim xic xih xif xop xbp xbq xsc xna xhe xlo xsk yru ypl ynu yps yfi (nI (t + 1)) 0 xhm yrp yrq yrl (fun i => nI (M i)) yle ypr ywa ybp xbq ybo xsc yfn yat yhi ylo yen
theorem pl_ol {b : Nat → Nat} {f i : Nat} (h : ¬ pl_bad b f i) (h2 : pl_sz (b i) = 2) : b (i + 1) < pl_li b f (b i) := by
  unfold pl_bad at h
  omega
theorem st_A {t g h : Nat} {xs ys : Nat → Int32} {v w : Int32} (h8 : ∀ j, j < h → xs (t * 6 + j) = ys (t * 7 + j)) (hg : g ≤ h) (e : v = w) : ∀ j, j < g + 1 → upd xs (t * 6 + g) v (t * 6 + j) = upd ys (t * 7 + g) w (t * 7 + j) := by
  intro j hj
  by_cases ej : j = g
  · subst ej; rw [pk_us, pk_us]; exact e
  · rw [pk_un (by omega), pk_un (by omega)]; exact h8 j (by omega)
theorem lo_A {t o : Nat} {xs ys : Nat → Int32} {v w : Int32} (h9 : ∀ i, i < 5 → xs (t * 5 + i) = ys (t * 5 + i)) (e : v = w) : ∀ i, i < 5 → upd xs (t * 5 + o) v (t * 5 + i) = upd ys (t * 5 + o) w (t * 5 + i) := by
  intro i hi
  by_cases ei : i = o
  · subst ei; rw [pk_us, pk_us]; exact e
  · rw [pk_un (by omega), pk_un (by omega)]; exact h9 i hi
end D7

section D8
variable {r n : Nat} {pt M b : Nat → Nat} {xrc xbc xfc xrn xra xfi xfp xgn xac xlr : Int32} {xhm : Int64} {xrp xrA xrB xrC xby xhd xst xbg xco xen xre xld xim xic xih xif xop xbp xbq xsc xna xhe xlo xsk : Nat → Int32} {yru ypl ynu yps yfi yac yre : Int32} {yme : Int64} {yrp yrq yrl yby yle ypr ywa ybp ybq ybo ysc yfn yat yhi ylo yen : Nat → Int32}
theorem rn_o0 {t f a hh q st m p x : Nat} {q0 : Nat → Int32} (hV : rn_V M p x n xim xic xih xbp) (ih : rn_H x p q0 M m xrc xbc xfc xrn xra xfi xfp xgn xac xlr xhm xrp xrA xrB xrC xby xhd xst xbg xco xen xre xld xim xic xih xif xop xbp xbq xsc xna xhe xlo xsk yru ypl ynu yps yfi yac yre yme yrp yrq yrl yby yle ypr ywa ybp ybq ybo ysc yfn yat yhi ylo yen) (ht : t < 6) (hst : st + (m + 1) ≤ 2000) (hW : lv_W (re_b M p) p t xna xhe xlo xsk yfn yat yhi ylo yen) (hA : lv_A (re_b M p) p t f a hh xna xhe xlo xsk yfn yat yhi ylo yen) (hR : rr_R (re_b M p) f a hh)
    (hqs : ∀ y, y ≠ x → xbq y = q0 y) (hq : xbq x = nI q) (hq2 : q ≤ 2000) (hcq : pl_C (re_b M p) f a ≤ q) (hphi : q - pl_C (re_b M p) f a + pl_T (re_b M p) f (a + pl_sz (re_b M p a)) ≤ m) (hc : re_b M p a = 0) :
    rn_E x p q0 (m + 1) st xrc xbc xfc xrn xra xfi xfp xgn (nI (t + 1)) 0 xhm xrp xrA xrB xrC xby xhd xst xbg xco xen xre xld xim xic xih xif xop xbp xbq xsc xna xhe xlo xsk yru ypl ynu yps yfi (nI (t + 1)) 0 xhm yrp yrq yrl (fun i => nI (M i)) yle ypr ywa ybp xbq ybo xsc yfn yat yhi ylo yen := by
  have hA' := hA
  obtain ⟨a1, a2, a3, a4, a5, a6, a7, a8, a9⟩ := hA'
  obtain ⟨hp, hx, hv, ⟨hn, hF, hff⟩, him, hbp, hih⟩ := id hV
  have hI := hR.1
  have la := hI.1
  have he := pl_ef hF a1
  have bad := (hff f a1).1 a hI
  have rs := rr_s (hff f a1).2.2 (hff f a1).2.1 hR
  have hxc : xim (p * 120 + a) = nI 0 := by rw [him a (by omega), hc]
  have hqs' : ∀ y, y ≠ x → upd xbq x (nI (q - pl_C (re_b M p) f a)) y = q0 y := fun y hy => by rw [pk_un hy]; exact hqs y hy
  have tk : pl_tk (re_b M p) a = 0 := by simp [pl_tk, hc]
  have gv : pl_gv (re_b M p a) = 1 := by rw [hc]; rfl
  rw [tk, gv] at rs
  have esz : pl_sz (re_b M p a) = 2 := by rw [hc]; rfl
  rw [esz] at rs hphi
  have hw : a + 1 < pl_e (re_b M p) f := pl_wide bad esz
  have hxo : xim (p * 120 + (a + 1)) = nI (re_b M p (a + 1)) := him _ (by omega)
  have hol : re_b M p (a + 1) < pl_li (re_b M p) f (re_b M p a) := pl_ol bad esz
  obtain ⟨nx1, nx2⟩ := rs.2.2.2 (by omega) (by omega)
  have hl : hh < 6 := by have := rs.2.1; omega
  refine rn_next hV ht hA hI hq hq2 (by omega) hcq (fun P K => x_op0 (by omega) hp hx (by omega) hxc hxo a5 hl K) (fun P K => ?_) (ih (t) (f) (a + 2) (hh + 1) (q - pl_C (re_b M p) f a) (st + 1) (xhm) (upd xbq x (nI (q - pl_C (re_b M p) f a))) (xsc) (upd xna t (nI (p * 120 + (a + 2)))) (upd xhe t (nI (hh + 1))) (xlo) (upd xsk (t * 6 + hh) ((nI (re_b M p (a + 1))).toInt8.toInt32)) (yfn) (upd yat t (nI (p * 120 + (a + 2)))) (upd (upd yhi t (nI hh)) t (nI (hh + 1))) (ylo) (upd yen (t * 7 + hh) ((nI (re_b M p (a + 1))).toInt8.toInt32)) ht (by omega) (lv_c hW (fun l hl => ⟨by first | rfl | (rw [pk_un (by omega)]; done) | (rw [pk_un (by omega), pk_un (by omega)]; done) | (rw [pk_un (by omega), pk_un (by omega), pk_un (by omega)]; done), by first | rfl | (rw [pk_un (by omega)]; done) | (rw [pk_un (by omega), pk_un (by omega)]; done) | (rw [pk_un (by omega), pk_un (by omega), pk_un (by omega)]; done), by first | rfl | (rw [pk_un (by omega)]; done) | (rw [pk_un (by omega), pk_un (by omega)]; done) | (rw [pk_un (by omega), pk_un (by omega), pk_un (by omega)]; done), by first | rfl | (rw [pk_un (by omega)]; done) | (rw [pk_un (by omega), pk_un (by omega)]; done) | (rw [pk_un (by omega), pk_un (by omega), pk_un (by omega)]; done), by first | rfl | (rw [pk_un (by omega)]; done) | (rw [pk_un (by omega), pk_un (by omega)]; done) | (rw [pk_un (by omega), pk_un (by omega), pk_un (by omega)]; done), fun j hj => by first | rfl | (rw [pk_un (by omega)]; done) | (rw [pk_un (by omega), pk_un (by omega)]; done) | (rw [pk_un (by omega), pk_un (by omega), pk_un (by omega)]; done), fun j hj => by first | rfl | (rw [pk_un (by omega)]; done) | (rw [pk_un (by omega), pk_un (by omega)]; done) | (rw [pk_un (by omega), pk_un (by omega), pk_un (by omega)]; done), fun i hi => by first | rfl | (rw [pk_un (by omega)]; done) | (rw [pk_un (by omega), pk_un (by omega)]; done) | (rw [pk_un (by omega), pk_un (by omega), pk_un (by omega)]; done), fun i hi => by first | rfl | (rw [pk_un (by omega)]; done) | (rw [pk_un (by omega), pk_un (by omega)]; done) | (rw [pk_un (by omega), pk_un (by omega), pk_un (by omega)]; done)⟩)) ⟨a1, a2, pk_us, pk_us, pk_us, pk_us, by omega, st_A a8 (Nat.le_refl _) rfl, a9⟩ (by rw [show hh + 1 = hh - 0 + 1 by omega]; exact nx2) hqs' pk_us (by omega) hphi)
  rw [hc]
  exact y_op0 (by omega) (by omega) hx (by omega) hn hF a1 la bad hc rfl a6 a7 hl K
theorem rn_o1 {t f a hh q st m p x : Nat} {q0 : Nat → Int32} (hV : rn_V M p x n xim xic xih xbp) (ih : rn_H x p q0 M m xrc xbc xfc xrn xra xfi xfp xgn xac xlr xhm xrp xrA xrB xrC xby xhd xst xbg xco xen xre xld xim xic xih xif xop xbp xbq xsc xna xhe xlo xsk yru ypl ynu yps yfi yac yre yme yrp yrq yrl yby yle ypr ywa ybp ybq ybo ysc yfn yat yhi ylo yen) (ht : t < 6) (hst : st + (m + 1) ≤ 2000) (hW : lv_W (re_b M p) p t xna xhe xlo xsk yfn yat yhi ylo yen) (hA : lv_A (re_b M p) p t f a hh xna xhe xlo xsk yfn yat yhi ylo yen) (hR : rr_R (re_b M p) f a hh)
    (hqs : ∀ y, y ≠ x → xbq y = q0 y) (hq : xbq x = nI q) (hq2 : q ≤ 2000) (hcq : pl_C (re_b M p) f a ≤ q) (hphi : q - pl_C (re_b M p) f a + pl_T (re_b M p) f (a + pl_sz (re_b M p a)) ≤ m) (hc : re_b M p a = 1) :
    rn_E x p q0 (m + 1) st xrc xbc xfc xrn xra xfi xfp xgn (nI (t + 1)) 0 xhm xrp xrA xrB xrC xby xhd xst xbg xco xen xre xld xim xic xih xif xop xbp xbq xsc xna xhe xlo xsk yru ypl ynu yps yfi (nI (t + 1)) 0 xhm yrp yrq yrl (fun i => nI (M i)) yle ypr ywa ybp xbq ybo xsc yfn yat yhi ylo yen := by
  have hA' := hA
  obtain ⟨a1, a2, a3, a4, a5, a6, a7, a8, a9⟩ := hA'
  obtain ⟨hp, hx, hv, ⟨hn, hF, hff⟩, him, hbp, hih⟩ := id hV
  have hI := hR.1
  have la := hI.1
  have he := pl_ef hF a1
  have bad := (hff f a1).1 a hI
  have rs := rr_s (hff f a1).2.2 (hff f a1).2.1 hR
  have hxc : xim (p * 120 + a) = nI 1 := by rw [him a (by omega), hc]
  have hqs' : ∀ y, y ≠ x → upd xbq x (nI (q - pl_C (re_b M p) f a)) y = q0 y := fun y hy => by rw [pk_un hy]; exact hqs y hy
  have tk : pl_tk (re_b M p) a = 0 := by simp [pl_tk, hc]
  have gv : pl_gv (re_b M p a) = 1 := by rw [hc]; rfl
  rw [tk, gv] at rs
  have esz : pl_sz (re_b M p a) = 2 := by rw [hc]; rfl
  rw [esz] at rs hphi
  have hw : a + 1 < pl_e (re_b M p) f := pl_wide bad esz
  have hxo : xim (p * 120 + (a + 1)) = nI (re_b M p (a + 1)) := him _ (by omega)
  have hol : re_b M p (a + 1) < pl_li (re_b M p) f (re_b M p a) := pl_ol bad esz
  obtain ⟨nx1, nx2⟩ := rs.2.2.2 (by omega) (by omega)
  have ho5 : re_b M p (a + 1) < 5 := by
    have h1 := hF.2.2.2.2.1 f a1
    have h2 : pl_li (re_b M p) f (re_b M p a) = re_b M p (pl_hd (re_b M p) f) + re_b M p (pl_hd (re_b M p) f + 1) := by rw [hc]; rfl
    omega
  have hl : hh < 6 := by have := rs.2.1; omega
  refine rn_next hV ht hA hI hq hq2 (by omega) hcq (fun P K => x_op1 (by omega) hp hx (by omega) hxc hxo a5 hl ho5 K) (fun P K => ?_) (ih (t) (f) (a + 2) (hh + 1) (q - pl_C (re_b M p) f a) (st + 1) (xhm) (upd xbq x (nI (q - pl_C (re_b M p) f a))) (xsc) (upd xna t (nI (p * 120 + (a + 2)))) (upd xhe t (nI (hh + 1))) (xlo) (upd xsk (t * 6 + hh) (xlo (t * 5 + re_b M p (a + 1)))) (yfn) (upd yat t (nI (p * 120 + (a + 2)))) (upd (upd yhi t (nI hh)) t (nI (hh + 1))) (ylo) (upd yen (t * 7 + hh) (ylo (t * 5 + re_b M p (a + 1)))) ht (by omega) (lv_c hW (fun l hl => ⟨by first | rfl | (rw [pk_un (by omega)]; done) | (rw [pk_un (by omega), pk_un (by omega)]; done) | (rw [pk_un (by omega), pk_un (by omega), pk_un (by omega)]; done), by first | rfl | (rw [pk_un (by omega)]; done) | (rw [pk_un (by omega), pk_un (by omega)]; done) | (rw [pk_un (by omega), pk_un (by omega), pk_un (by omega)]; done), by first | rfl | (rw [pk_un (by omega)]; done) | (rw [pk_un (by omega), pk_un (by omega)]; done) | (rw [pk_un (by omega), pk_un (by omega), pk_un (by omega)]; done), by first | rfl | (rw [pk_un (by omega)]; done) | (rw [pk_un (by omega), pk_un (by omega)]; done) | (rw [pk_un (by omega), pk_un (by omega), pk_un (by omega)]; done), by first | rfl | (rw [pk_un (by omega)]; done) | (rw [pk_un (by omega), pk_un (by omega)]; done) | (rw [pk_un (by omega), pk_un (by omega), pk_un (by omega)]; done), fun j hj => by first | rfl | (rw [pk_un (by omega)]; done) | (rw [pk_un (by omega), pk_un (by omega)]; done) | (rw [pk_un (by omega), pk_un (by omega), pk_un (by omega)]; done), fun j hj => by first | rfl | (rw [pk_un (by omega)]; done) | (rw [pk_un (by omega), pk_un (by omega)]; done) | (rw [pk_un (by omega), pk_un (by omega), pk_un (by omega)]; done), fun i hi => by first | rfl | (rw [pk_un (by omega)]; done) | (rw [pk_un (by omega), pk_un (by omega)]; done) | (rw [pk_un (by omega), pk_un (by omega), pk_un (by omega)]; done), fun i hi => by first | rfl | (rw [pk_un (by omega)]; done) | (rw [pk_un (by omega), pk_un (by omega)]; done) | (rw [pk_un (by omega), pk_un (by omega), pk_un (by omega)]; done)⟩)) ⟨a1, a2, pk_us, pk_us, pk_us, pk_us, by omega, st_A a8 (Nat.le_refl _) (a9 _ ho5), a9⟩ (by rw [show hh + 1 = hh - 0 + 1 by omega]; exact nx2) hqs' pk_us (by omega) hphi)
  rw [hc]
  exact y_op1 (by omega) (by omega) hx (by omega) hn hF a1 la bad hc rfl a6 a7 hl ho5 K
theorem rn_o14 {t f a hh q st m p x : Nat} {q0 : Nat → Int32} (hV : rn_V M p x n xim xic xih xbp) (ih : rn_H x p q0 M m xrc xbc xfc xrn xra xfi xfp xgn xac xlr xhm xrp xrA xrB xrC xby xhd xst xbg xco xen xre xld xim xic xih xif xop xbp xbq xsc xna xhe xlo xsk yru ypl ynu yps yfi yac yre yme yrp yrq yrl yby yle ypr ywa ybp ybq ybo ysc yfn yat yhi ylo yen) (ht : t < 6) (hst : st + (m + 1) ≤ 2000) (hW : lv_W (re_b M p) p t xna xhe xlo xsk yfn yat yhi ylo yen) (hA : lv_A (re_b M p) p t f a hh xna xhe xlo xsk yfn yat yhi ylo yen) (hR : rr_R (re_b M p) f a hh)
    (hqs : ∀ y, y ≠ x → xbq y = q0 y) (hq : xbq x = nI q) (hq2 : q ≤ 2000) (hcq : pl_C (re_b M p) f a ≤ q) (hphi : q - pl_C (re_b M p) f a + pl_T (re_b M p) f (a + pl_sz (re_b M p a)) ≤ m) (hc : re_b M p a = 14) :
    rn_E x p q0 (m + 1) st xrc xbc xfc xrn xra xfi xfp xgn (nI (t + 1)) 0 xhm xrp xrA xrB xrC xby xhd xst xbg xco xen xre xld xim xic xih xif xop xbp xbq xsc xna xhe xlo xsk yru ypl ynu yps yfi (nI (t + 1)) 0 xhm yrp yrq yrl (fun i => nI (M i)) yle ypr ywa ybp xbq ybo xsc yfn yat yhi ylo yen := by
  have hA' := hA
  obtain ⟨a1, a2, a3, a4, a5, a6, a7, a8, a9⟩ := hA'
  obtain ⟨hp, hx, hv, ⟨hn, hF, hff⟩, him, hbp, hih⟩ := id hV
  have hI := hR.1
  have la := hI.1
  have he := pl_ef hF a1
  have bad := (hff f a1).1 a hI
  have rs := rr_s (hff f a1).2.2 (hff f a1).2.1 hR
  have hxc : xim (p * 120 + a) = nI 14 := by rw [him a (by omega), hc]
  have hqs' : ∀ y, y ≠ x → upd xbq x (nI (q - pl_C (re_b M p) f a)) y = q0 y := fun y hy => by rw [pk_un hy]; exact hqs y hy
  have tk : pl_tk (re_b M p) a = 0 := by simp [pl_tk, hc]
  have gv : pl_gv (re_b M p a) = 1 := by rw [hc]; rfl
  rw [tk, gv] at rs
  have esz : pl_sz (re_b M p a) = 2 := by rw [hc]; rfl
  rw [esz] at rs hphi
  have hw : a + 1 < pl_e (re_b M p) f := pl_wide bad esz
  have hxo : xim (p * 120 + (a + 1)) = nI (re_b M p (a + 1)) := him _ (by omega)
  have hol : re_b M p (a + 1) < pl_li (re_b M p) f (re_b M p a) := pl_ol bad esz
  obtain ⟨nx1, nx2⟩ := rs.2.2.2 (by omega) (by omega)
  have ho4 : re_b M p (a + 1) < 4 := by
    have h2 : pl_li (re_b M p) f (re_b M p a) = 4 := by rw [hc]; rfl
    omega
  have hl : hh < 6 := by have := rs.2.1; omega
  refine rn_next hV ht hA hI hq hq2 (by omega) hcq (fun P K => x_op14 (by omega) hp hx (by omega) hxc hxo a5 hl ho4 K) (fun P K => ?_) (ih (t) (f) (a + 2) (hh + 1) (q - pl_C (re_b M p) f a) (st + 1) (xhm) (upd xbq x (nI (q - pl_C (re_b M p) f a))) (xsc) (upd xna t (nI (p * 120 + (a + 2)))) (upd xhe t (nI (hh + 1))) (xlo) (upd xsk (t * 6 + hh) (xsc (x * 4 + re_b M p (a + 1)))) (yfn) (upd yat t (nI (p * 120 + (a + 2)))) (upd (upd yhi t (nI hh)) t (nI (hh + 1))) (ylo) (upd yen (t * 7 + hh) (xsc (x * 4 + re_b M p (a + 1)))) ht (by omega) (lv_c hW (fun l hl => ⟨by first | rfl | (rw [pk_un (by omega)]; done) | (rw [pk_un (by omega), pk_un (by omega)]; done) | (rw [pk_un (by omega), pk_un (by omega), pk_un (by omega)]; done), by first | rfl | (rw [pk_un (by omega)]; done) | (rw [pk_un (by omega), pk_un (by omega)]; done) | (rw [pk_un (by omega), pk_un (by omega), pk_un (by omega)]; done), by first | rfl | (rw [pk_un (by omega)]; done) | (rw [pk_un (by omega), pk_un (by omega)]; done) | (rw [pk_un (by omega), pk_un (by omega), pk_un (by omega)]; done), by first | rfl | (rw [pk_un (by omega)]; done) | (rw [pk_un (by omega), pk_un (by omega)]; done) | (rw [pk_un (by omega), pk_un (by omega), pk_un (by omega)]; done), by first | rfl | (rw [pk_un (by omega)]; done) | (rw [pk_un (by omega), pk_un (by omega)]; done) | (rw [pk_un (by omega), pk_un (by omega), pk_un (by omega)]; done), fun j hj => by first | rfl | (rw [pk_un (by omega)]; done) | (rw [pk_un (by omega), pk_un (by omega)]; done) | (rw [pk_un (by omega), pk_un (by omega), pk_un (by omega)]; done), fun j hj => by first | rfl | (rw [pk_un (by omega)]; done) | (rw [pk_un (by omega), pk_un (by omega)]; done) | (rw [pk_un (by omega), pk_un (by omega), pk_un (by omega)]; done), fun i hi => by first | rfl | (rw [pk_un (by omega)]; done) | (rw [pk_un (by omega), pk_un (by omega)]; done) | (rw [pk_un (by omega), pk_un (by omega), pk_un (by omega)]; done), fun i hi => by first | rfl | (rw [pk_un (by omega)]; done) | (rw [pk_un (by omega), pk_un (by omega)]; done) | (rw [pk_un (by omega), pk_un (by omega), pk_un (by omega)]; done)⟩)) ⟨a1, a2, pk_us, pk_us, pk_us, pk_us, by omega, st_A a8 (Nat.le_refl _) rfl, a9⟩ (by rw [show hh + 1 = hh - 0 + 1 by omega]; exact nx2) hqs' pk_us (by omega) hphi)
  rw [hc]
  exact y_op14 (by omega) (by omega) hx (by omega) hn hF a1 la bad hc rfl a6 a7 hl ho4 K
theorem rn_o3 {t f a hh q st m p x : Nat} {q0 : Nat → Int32} (hV : rn_V M p x n xim xic xih xbp) (ih : rn_H x p q0 M m xrc xbc xfc xrn xra xfi xfp xgn xac xlr xhm xrp xrA xrB xrC xby xhd xst xbg xco xen xre xld xim xic xih xif xop xbp xbq xsc xna xhe xlo xsk yru ypl ynu yps yfi yac yre yme yrp yrq yrl yby yle ypr ywa ybp ybq ybo ysc yfn yat yhi ylo yen) (ht : t < 6) (hst : st + (m + 1) ≤ 2000) (hW : lv_W (re_b M p) p t xna xhe xlo xsk yfn yat yhi ylo yen) (hA : lv_A (re_b M p) p t f a hh xna xhe xlo xsk yfn yat yhi ylo yen) (hR : rr_R (re_b M p) f a hh)
    (hqs : ∀ y, y ≠ x → xbq y = q0 y) (hq : xbq x = nI q) (hq2 : q ≤ 2000) (hcq : pl_C (re_b M p) f a ≤ q) (hphi : q - pl_C (re_b M p) f a + pl_T (re_b M p) f (a + pl_sz (re_b M p a)) ≤ m) (hc : re_b M p a = 3) :
    rn_E x p q0 (m + 1) st xrc xbc xfc xrn xra xfi xfp xgn (nI (t + 1)) 0 xhm xrp xrA xrB xrC xby xhd xst xbg xco xen xre xld xim xic xih xif xop xbp xbq xsc xna xhe xlo xsk yru ypl ynu yps yfi (nI (t + 1)) 0 xhm yrp yrq yrl (fun i => nI (M i)) yle ypr ywa ybp xbq ybo xsc yfn yat yhi ylo yen := by
  have hA' := hA
  obtain ⟨a1, a2, a3, a4, a5, a6, a7, a8, a9⟩ := hA'
  obtain ⟨hp, hx, hv, ⟨hn, hF, hff⟩, him, hbp, hih⟩ := id hV
  have hI := hR.1
  have la := hI.1
  have he := pl_ef hF a1
  have bad := (hff f a1).1 a hI
  have rs := rr_s (hff f a1).2.2 (hff f a1).2.1 hR
  have hxc : xim (p * 120 + a) = nI 3 := by rw [him a (by omega), hc]
  have hqs' : ∀ y, y ≠ x → upd xbq x (nI (q - pl_C (re_b M p) f a)) y = q0 y := fun y hy => by rw [pk_un hy]; exact hqs y hy
  have tk : pl_tk (re_b M p) a = 2 := by simp [pl_tk, hc]
  have gv : pl_gv (re_b M p a) = 1 := by rw [hc]; rfl
  rw [tk, gv] at rs
  have esz : pl_sz (re_b M p a) = 1 := by rw [hc]; rfl
  rw [esz] at rs hphi
  obtain ⟨nx1, nx2⟩ := rs.2.2.2 (by omega) (by omega)
  obtain ⟨g, rfl⟩ : ∃ g, hh = g + 2 := ⟨hh - 2, by have := rs.1; omega⟩
  have ev : xsk (t * 6 + g) = yen (t * 7 + g) := a8 g (by omega)
  have ew : xsk (t * 6 + (g + 1)) = yen (t * 7 + (g + 1)) := a8 (g + 1) (by omega)
  refine rn_next hV ht hA hI hq hq2 (by omega) hcq (fun P K => x_op3 (o := 0) (by omega) hp hx (by omega) hxc a5 (by omega) (fun _ v e => by subst e; exact K)) (fun P K => ?_) (ih (t) (f) (a + 1) (g + 1) (q - pl_C (re_b M p) f a) (st + 1) (xhm) (upd xbq x (nI (q - pl_C (re_b M p) f a))) (xsc) (upd xna t (nI (p * 120 + (a + 1)))) (upd (upd (upd xhe t (nI (g + 1))) t (nI g)) t (nI (g + 1))) (xlo) (upd xsk (t * 6 + g) (al_v 3 (xsk (t * 6 + g)) (xsk (t * 6 + (g + 1))))) (yfn) (upd yat t (nI (p * 120 + (a + 1)))) (upd (upd yhi t (nI g)) t (nI (g + 1))) (ylo) (upd yen (t * 7 + g) (al_v 3 (yen (t * 7 + g)) (yen (t * 7 + (g + 1))))) ht (by omega) (lv_c hW (fun l hl => ⟨by first | rfl | (rw [pk_un (by omega)]; done) | (rw [pk_un (by omega), pk_un (by omega)]; done) | (rw [pk_un (by omega), pk_un (by omega), pk_un (by omega)]; done), by first | rfl | (rw [pk_un (by omega)]; done) | (rw [pk_un (by omega), pk_un (by omega)]; done) | (rw [pk_un (by omega), pk_un (by omega), pk_un (by omega)]; done), by first | rfl | (rw [pk_un (by omega)]; done) | (rw [pk_un (by omega), pk_un (by omega)]; done) | (rw [pk_un (by omega), pk_un (by omega), pk_un (by omega)]; done), by first | rfl | (rw [pk_un (by omega)]; done) | (rw [pk_un (by omega), pk_un (by omega)]; done) | (rw [pk_un (by omega), pk_un (by omega), pk_un (by omega)]; done), by first | rfl | (rw [pk_un (by omega)]; done) | (rw [pk_un (by omega), pk_un (by omega)]; done) | (rw [pk_un (by omega), pk_un (by omega), pk_un (by omega)]; done), fun j hj => by first | rfl | (rw [pk_un (by omega)]; done) | (rw [pk_un (by omega), pk_un (by omega)]; done) | (rw [pk_un (by omega), pk_un (by omega), pk_un (by omega)]; done), fun j hj => by first | rfl | (rw [pk_un (by omega)]; done) | (rw [pk_un (by omega), pk_un (by omega)]; done) | (rw [pk_un (by omega), pk_un (by omega), pk_un (by omega)]; done), fun i hi => by first | rfl | (rw [pk_un (by omega)]; done) | (rw [pk_un (by omega), pk_un (by omega)]; done) | (rw [pk_un (by omega), pk_un (by omega), pk_un (by omega)]; done), fun i hi => by first | rfl | (rw [pk_un (by omega)]; done) | (rw [pk_un (by omega), pk_un (by omega)]; done) | (rw [pk_un (by omega), pk_un (by omega), pk_un (by omega)]; done)⟩)) ⟨a1, a2, pk_us, pk_us, pk_us, pk_us, by omega, st_A a8 (by omega) (by rw [ev, ew]), a9⟩ (by rw [show g + 1 = g + 2 - 2 + 1 by omega]; exact nx2) hqs' pk_us (by omega) hphi)
  rw [hc]
  exact y_op3 (o := 0) (by omega) (by omega) hx (by omega) hn hF a1 la bad hc a6 a7 (by omega) (fun v e => by subst e; exact K)
theorem rn_o4 {t f a hh q st m p x : Nat} {q0 : Nat → Int32} (hV : rn_V M p x n xim xic xih xbp) (ih : rn_H x p q0 M m xrc xbc xfc xrn xra xfi xfp xgn xac xlr xhm xrp xrA xrB xrC xby xhd xst xbg xco xen xre xld xim xic xih xif xop xbp xbq xsc xna xhe xlo xsk yru ypl ynu yps yfi yac yre yme yrp yrq yrl yby yle ypr ywa ybp ybq ybo ysc yfn yat yhi ylo yen) (ht : t < 6) (hst : st + (m + 1) ≤ 2000) (hW : lv_W (re_b M p) p t xna xhe xlo xsk yfn yat yhi ylo yen) (hA : lv_A (re_b M p) p t f a hh xna xhe xlo xsk yfn yat yhi ylo yen) (hR : rr_R (re_b M p) f a hh)
    (hqs : ∀ y, y ≠ x → xbq y = q0 y) (hq : xbq x = nI q) (hq2 : q ≤ 2000) (hcq : pl_C (re_b M p) f a ≤ q) (hphi : q - pl_C (re_b M p) f a + pl_T (re_b M p) f (a + pl_sz (re_b M p a)) ≤ m) (hc : re_b M p a = 4) :
    rn_E x p q0 (m + 1) st xrc xbc xfc xrn xra xfi xfp xgn (nI (t + 1)) 0 xhm xrp xrA xrB xrC xby xhd xst xbg xco xen xre xld xim xic xih xif xop xbp xbq xsc xna xhe xlo xsk yru ypl ynu yps yfi (nI (t + 1)) 0 xhm yrp yrq yrl (fun i => nI (M i)) yle ypr ywa ybp xbq ybo xsc yfn yat yhi ylo yen := by
  have hA' := hA
  obtain ⟨a1, a2, a3, a4, a5, a6, a7, a8, a9⟩ := hA'
  obtain ⟨hp, hx, hv, ⟨hn, hF, hff⟩, him, hbp, hih⟩ := id hV
  have hI := hR.1
  have la := hI.1
  have he := pl_ef hF a1
  have bad := (hff f a1).1 a hI
  have rs := rr_s (hff f a1).2.2 (hff f a1).2.1 hR
  have hxc : xim (p * 120 + a) = nI 4 := by rw [him a (by omega), hc]
  have hqs' : ∀ y, y ≠ x → upd xbq x (nI (q - pl_C (re_b M p) f a)) y = q0 y := fun y hy => by rw [pk_un hy]; exact hqs y hy
  have tk : pl_tk (re_b M p) a = 2 := by simp [pl_tk, hc]
  have gv : pl_gv (re_b M p a) = 1 := by rw [hc]; rfl
  rw [tk, gv] at rs
  have esz : pl_sz (re_b M p a) = 1 := by rw [hc]; rfl
  rw [esz] at rs hphi
  obtain ⟨nx1, nx2⟩ := rs.2.2.2 (by omega) (by omega)
  obtain ⟨g, rfl⟩ : ∃ g, hh = g + 2 := ⟨hh - 2, by have := rs.1; omega⟩
  have ev : xsk (t * 6 + g) = yen (t * 7 + g) := a8 g (by omega)
  have ew : xsk (t * 6 + (g + 1)) = yen (t * 7 + (g + 1)) := a8 (g + 1) (by omega)
  refine rn_next hV ht hA hI hq hq2 (by omega) hcq (fun P K => x_op4 (o := 0) (by omega) hp hx (by omega) hxc a5 (by omega) (fun _ v e => by subst e; exact K)) (fun P K => ?_) (ih (t) (f) (a + 1) (g + 1) (q - pl_C (re_b M p) f a) (st + 1) (xhm) (upd xbq x (nI (q - pl_C (re_b M p) f a))) (xsc) (upd xna t (nI (p * 120 + (a + 1)))) (upd (upd (upd xhe t (nI (g + 1))) t (nI g)) t (nI (g + 1))) (xlo) (upd xsk (t * 6 + g) (al_v 4 (xsk (t * 6 + g)) (xsk (t * 6 + (g + 1))))) (yfn) (upd yat t (nI (p * 120 + (a + 1)))) (upd (upd yhi t (nI g)) t (nI (g + 1))) (ylo) (upd yen (t * 7 + g) (al_v 4 (yen (t * 7 + g)) (yen (t * 7 + (g + 1))))) ht (by omega) (lv_c hW (fun l hl => ⟨by first | rfl | (rw [pk_un (by omega)]; done) | (rw [pk_un (by omega), pk_un (by omega)]; done) | (rw [pk_un (by omega), pk_un (by omega), pk_un (by omega)]; done), by first | rfl | (rw [pk_un (by omega)]; done) | (rw [pk_un (by omega), pk_un (by omega)]; done) | (rw [pk_un (by omega), pk_un (by omega), pk_un (by omega)]; done), by first | rfl | (rw [pk_un (by omega)]; done) | (rw [pk_un (by omega), pk_un (by omega)]; done) | (rw [pk_un (by omega), pk_un (by omega), pk_un (by omega)]; done), by first | rfl | (rw [pk_un (by omega)]; done) | (rw [pk_un (by omega), pk_un (by omega)]; done) | (rw [pk_un (by omega), pk_un (by omega), pk_un (by omega)]; done), by first | rfl | (rw [pk_un (by omega)]; done) | (rw [pk_un (by omega), pk_un (by omega)]; done) | (rw [pk_un (by omega), pk_un (by omega), pk_un (by omega)]; done), fun j hj => by first | rfl | (rw [pk_un (by omega)]; done) | (rw [pk_un (by omega), pk_un (by omega)]; done) | (rw [pk_un (by omega), pk_un (by omega), pk_un (by omega)]; done), fun j hj => by first | rfl | (rw [pk_un (by omega)]; done) | (rw [pk_un (by omega), pk_un (by omega)]; done) | (rw [pk_un (by omega), pk_un (by omega), pk_un (by omega)]; done), fun i hi => by first | rfl | (rw [pk_un (by omega)]; done) | (rw [pk_un (by omega), pk_un (by omega)]; done) | (rw [pk_un (by omega), pk_un (by omega), pk_un (by omega)]; done), fun i hi => by first | rfl | (rw [pk_un (by omega)]; done) | (rw [pk_un (by omega), pk_un (by omega)]; done) | (rw [pk_un (by omega), pk_un (by omega), pk_un (by omega)]; done)⟩)) ⟨a1, a2, pk_us, pk_us, pk_us, pk_us, by omega, st_A a8 (by omega) (by rw [ev, ew]), a9⟩ (by rw [show g + 1 = g + 2 - 2 + 1 by omega]; exact nx2) hqs' pk_us (by omega) hphi)
  rw [hc]
  exact y_op4 (o := 0) (by omega) (by omega) hx (by omega) hn hF a1 la bad hc a6 a7 (by omega) (fun v e => by subst e; exact K)
theorem rn_o5 {t f a hh q st m p x : Nat} {q0 : Nat → Int32} (hV : rn_V M p x n xim xic xih xbp) (ih : rn_H x p q0 M m xrc xbc xfc xrn xra xfi xfp xgn xac xlr xhm xrp xrA xrB xrC xby xhd xst xbg xco xen xre xld xim xic xih xif xop xbp xbq xsc xna xhe xlo xsk yru ypl ynu yps yfi yac yre yme yrp yrq yrl yby yle ypr ywa ybp ybq ybo ysc yfn yat yhi ylo yen) (ht : t < 6) (hst : st + (m + 1) ≤ 2000) (hW : lv_W (re_b M p) p t xna xhe xlo xsk yfn yat yhi ylo yen) (hA : lv_A (re_b M p) p t f a hh xna xhe xlo xsk yfn yat yhi ylo yen) (hR : rr_R (re_b M p) f a hh)
    (hqs : ∀ y, y ≠ x → xbq y = q0 y) (hq : xbq x = nI q) (hq2 : q ≤ 2000) (hcq : pl_C (re_b M p) f a ≤ q) (hphi : q - pl_C (re_b M p) f a + pl_T (re_b M p) f (a + pl_sz (re_b M p a)) ≤ m) (hc : re_b M p a = 5) :
    rn_E x p q0 (m + 1) st xrc xbc xfc xrn xra xfi xfp xgn (nI (t + 1)) 0 xhm xrp xrA xrB xrC xby xhd xst xbg xco xen xre xld xim xic xih xif xop xbp xbq xsc xna xhe xlo xsk yru ypl ynu yps yfi (nI (t + 1)) 0 xhm yrp yrq yrl (fun i => nI (M i)) yle ypr ywa ybp xbq ybo xsc yfn yat yhi ylo yen := by
  have hA' := hA
  obtain ⟨a1, a2, a3, a4, a5, a6, a7, a8, a9⟩ := hA'
  obtain ⟨hp, hx, hv, ⟨hn, hF, hff⟩, him, hbp, hih⟩ := id hV
  have hI := hR.1
  have la := hI.1
  have he := pl_ef hF a1
  have bad := (hff f a1).1 a hI
  have rs := rr_s (hff f a1).2.2 (hff f a1).2.1 hR
  have hxc : xim (p * 120 + a) = nI 5 := by rw [him a (by omega), hc]
  have hqs' : ∀ y, y ≠ x → upd xbq x (nI (q - pl_C (re_b M p) f a)) y = q0 y := fun y hy => by rw [pk_un hy]; exact hqs y hy
  have tk : pl_tk (re_b M p) a = 2 := by simp [pl_tk, hc]
  have gv : pl_gv (re_b M p a) = 1 := by rw [hc]; rfl
  rw [tk, gv] at rs
  have esz : pl_sz (re_b M p a) = 1 := by rw [hc]; rfl
  rw [esz] at rs hphi
  obtain ⟨nx1, nx2⟩ := rs.2.2.2 (by omega) (by omega)
  obtain ⟨g, rfl⟩ : ∃ g, hh = g + 2 := ⟨hh - 2, by have := rs.1; omega⟩
  have ev : xsk (t * 6 + g) = yen (t * 7 + g) := a8 g (by omega)
  have ew : xsk (t * 6 + (g + 1)) = yen (t * 7 + (g + 1)) := a8 (g + 1) (by omega)
  refine rn_next hV ht hA hI hq hq2 (by omega) hcq (fun P K => x_op5 (o := 0) (by omega) hp hx (by omega) hxc a5 (by omega) (fun _ v e => by subst e; exact K)) (fun P K => ?_) (ih (t) (f) (a + 1) (g + 1) (q - pl_C (re_b M p) f a) (st + 1) (xhm) (upd xbq x (nI (q - pl_C (re_b M p) f a))) (xsc) (upd xna t (nI (p * 120 + (a + 1)))) (upd (upd (upd xhe t (nI (g + 1))) t (nI g)) t (nI (g + 1))) (xlo) (upd xsk (t * 6 + g) (al_v 5 (xsk (t * 6 + g)) (xsk (t * 6 + (g + 1))))) (yfn) (upd yat t (nI (p * 120 + (a + 1)))) (upd (upd yhi t (nI g)) t (nI (g + 1))) (ylo) (upd yen (t * 7 + g) (al_v 5 (yen (t * 7 + g)) (yen (t * 7 + (g + 1))))) ht (by omega) (lv_c hW (fun l hl => ⟨by first | rfl | (rw [pk_un (by omega)]; done) | (rw [pk_un (by omega), pk_un (by omega)]; done) | (rw [pk_un (by omega), pk_un (by omega), pk_un (by omega)]; done), by first | rfl | (rw [pk_un (by omega)]; done) | (rw [pk_un (by omega), pk_un (by omega)]; done) | (rw [pk_un (by omega), pk_un (by omega), pk_un (by omega)]; done), by first | rfl | (rw [pk_un (by omega)]; done) | (rw [pk_un (by omega), pk_un (by omega)]; done) | (rw [pk_un (by omega), pk_un (by omega), pk_un (by omega)]; done), by first | rfl | (rw [pk_un (by omega)]; done) | (rw [pk_un (by omega), pk_un (by omega)]; done) | (rw [pk_un (by omega), pk_un (by omega), pk_un (by omega)]; done), by first | rfl | (rw [pk_un (by omega)]; done) | (rw [pk_un (by omega), pk_un (by omega)]; done) | (rw [pk_un (by omega), pk_un (by omega), pk_un (by omega)]; done), fun j hj => by first | rfl | (rw [pk_un (by omega)]; done) | (rw [pk_un (by omega), pk_un (by omega)]; done) | (rw [pk_un (by omega), pk_un (by omega), pk_un (by omega)]; done), fun j hj => by first | rfl | (rw [pk_un (by omega)]; done) | (rw [pk_un (by omega), pk_un (by omega)]; done) | (rw [pk_un (by omega), pk_un (by omega), pk_un (by omega)]; done), fun i hi => by first | rfl | (rw [pk_un (by omega)]; done) | (rw [pk_un (by omega), pk_un (by omega)]; done) | (rw [pk_un (by omega), pk_un (by omega), pk_un (by omega)]; done), fun i hi => by first | rfl | (rw [pk_un (by omega)]; done) | (rw [pk_un (by omega), pk_un (by omega)]; done) | (rw [pk_un (by omega), pk_un (by omega), pk_un (by omega)]; done)⟩)) ⟨a1, a2, pk_us, pk_us, pk_us, pk_us, by omega, st_A a8 (by omega) (by rw [ev, ew]), a9⟩ (by rw [show g + 1 = g + 2 - 2 + 1 by omega]; exact nx2) hqs' pk_us (by omega) hphi)
  rw [hc]
  exact y_op5 (o := 0) (by omega) (by omega) hx (by omega) hn hF a1 la bad hc a6 a7 (by omega) (fun v e => by subst e; exact K)
theorem rn_o6 {t f a hh q st m p x : Nat} {q0 : Nat → Int32} (hV : rn_V M p x n xim xic xih xbp) (ih : rn_H x p q0 M m xrc xbc xfc xrn xra xfi xfp xgn xac xlr xhm xrp xrA xrB xrC xby xhd xst xbg xco xen xre xld xim xic xih xif xop xbp xbq xsc xna xhe xlo xsk yru ypl ynu yps yfi yac yre yme yrp yrq yrl yby yle ypr ywa ybp ybq ybo ysc yfn yat yhi ylo yen) (ht : t < 6) (hst : st + (m + 1) ≤ 2000) (hW : lv_W (re_b M p) p t xna xhe xlo xsk yfn yat yhi ylo yen) (hA : lv_A (re_b M p) p t f a hh xna xhe xlo xsk yfn yat yhi ylo yen) (hR : rr_R (re_b M p) f a hh)
    (hqs : ∀ y, y ≠ x → xbq y = q0 y) (hq : xbq x = nI q) (hq2 : q ≤ 2000) (hcq : pl_C (re_b M p) f a ≤ q) (hphi : q - pl_C (re_b M p) f a + pl_T (re_b M p) f (a + pl_sz (re_b M p a)) ≤ m) (hc : re_b M p a = 6) :
    rn_E x p q0 (m + 1) st xrc xbc xfc xrn xra xfi xfp xgn (nI (t + 1)) 0 xhm xrp xrA xrB xrC xby xhd xst xbg xco xen xre xld xim xic xih xif xop xbp xbq xsc xna xhe xlo xsk yru ypl ynu yps yfi (nI (t + 1)) 0 xhm yrp yrq yrl (fun i => nI (M i)) yle ypr ywa ybp xbq ybo xsc yfn yat yhi ylo yen := by
  have hA' := hA
  obtain ⟨a1, a2, a3, a4, a5, a6, a7, a8, a9⟩ := hA'
  obtain ⟨hp, hx, hv, ⟨hn, hF, hff⟩, him, hbp, hih⟩ := id hV
  have hI := hR.1
  have la := hI.1
  have he := pl_ef hF a1
  have bad := (hff f a1).1 a hI
  have rs := rr_s (hff f a1).2.2 (hff f a1).2.1 hR
  have hxc : xim (p * 120 + a) = nI 6 := by rw [him a (by omega), hc]
  have hqs' : ∀ y, y ≠ x → upd xbq x (nI (q - pl_C (re_b M p) f a)) y = q0 y := fun y hy => by rw [pk_un hy]; exact hqs y hy
  have tk : pl_tk (re_b M p) a = 2 := by simp [pl_tk, hc]
  have gv : pl_gv (re_b M p a) = 1 := by rw [hc]; rfl
  rw [tk, gv] at rs
  have esz : pl_sz (re_b M p a) = 1 := by rw [hc]; rfl
  rw [esz] at rs hphi
  obtain ⟨nx1, nx2⟩ := rs.2.2.2 (by omega) (by omega)
  obtain ⟨g, rfl⟩ : ∃ g, hh = g + 2 := ⟨hh - 2, by have := rs.1; omega⟩
  have ev : xsk (t * 6 + g) = yen (t * 7 + g) := a8 g (by omega)
  have ew : xsk (t * 6 + (g + 1)) = yen (t * 7 + (g + 1)) := a8 (g + 1) (by omega)
  by_cases z : xsk (t * 6 + (g + 1)) = 0
  · refine rn_fin (w := 2) (xlr1 := 0) (yac1 := nI (t + 1)) (fn1 := yfn) (at1 := yat) (hi1 := yhi) (yl1 := ylo) (en1 := yen) hV ht hA hI hq hq2 (by omega) hcq (by decide) (by decide) hqs (fun P K => x_op6 (o := 0) (by omega) hp hx (by omega) hxc a5 (by omega) (fun _ => K) fun nz => absurd ⟨rfl, z⟩ nz) (fun P K => ?_)
    rw [hc]
    exact y_op6 (o := 0) (by omega) (by omega) hx (by omega) hn hF a1 la bad hc a6 a7 (by omega) (fun _ => K) fun nz => absurd (ew ▸ z) nz
  refine rn_next hV ht hA hI hq hq2 (by omega) hcq (fun P K => x_op6 (o := 0) (by omega) hp hx (by omega) hxc a5 (by omega) (fun z' => absurd z' z) (fun _ v e => by subst e; exact K)) (fun P K => ?_) (ih (t) (f) (a + 1) (g + 1) (q - pl_C (re_b M p) f a) (st + 1) (xhm) (upd xbq x (nI (q - pl_C (re_b M p) f a))) (xsc) (upd xna t (nI (p * 120 + (a + 1)))) (upd (upd (upd xhe t (nI (g + 1))) t (nI g)) t (nI (g + 1))) (xlo) (upd xsk (t * 6 + g) (al_v 6 (xsk (t * 6 + g)) (xsk (t * 6 + (g + 1))))) (yfn) (upd yat t (nI (p * 120 + (a + 1)))) (upd (upd yhi t (nI g)) t (nI (g + 1))) (ylo) (upd yen (t * 7 + g) (al_v 6 (yen (t * 7 + g)) (yen (t * 7 + (g + 1))))) ht (by omega) (lv_c hW (fun l hl => ⟨by first | rfl | (rw [pk_un (by omega)]; done) | (rw [pk_un (by omega), pk_un (by omega)]; done) | (rw [pk_un (by omega), pk_un (by omega), pk_un (by omega)]; done), by first | rfl | (rw [pk_un (by omega)]; done) | (rw [pk_un (by omega), pk_un (by omega)]; done) | (rw [pk_un (by omega), pk_un (by omega), pk_un (by omega)]; done), by first | rfl | (rw [pk_un (by omega)]; done) | (rw [pk_un (by omega), pk_un (by omega)]; done) | (rw [pk_un (by omega), pk_un (by omega), pk_un (by omega)]; done), by first | rfl | (rw [pk_un (by omega)]; done) | (rw [pk_un (by omega), pk_un (by omega)]; done) | (rw [pk_un (by omega), pk_un (by omega), pk_un (by omega)]; done), by first | rfl | (rw [pk_un (by omega)]; done) | (rw [pk_un (by omega), pk_un (by omega)]; done) | (rw [pk_un (by omega), pk_un (by omega), pk_un (by omega)]; done), fun j hj => by first | rfl | (rw [pk_un (by omega)]; done) | (rw [pk_un (by omega), pk_un (by omega)]; done) | (rw [pk_un (by omega), pk_un (by omega), pk_un (by omega)]; done), fun j hj => by first | rfl | (rw [pk_un (by omega)]; done) | (rw [pk_un (by omega), pk_un (by omega)]; done) | (rw [pk_un (by omega), pk_un (by omega), pk_un (by omega)]; done), fun i hi => by first | rfl | (rw [pk_un (by omega)]; done) | (rw [pk_un (by omega), pk_un (by omega)]; done) | (rw [pk_un (by omega), pk_un (by omega), pk_un (by omega)]; done), fun i hi => by first | rfl | (rw [pk_un (by omega)]; done) | (rw [pk_un (by omega), pk_un (by omega)]; done) | (rw [pk_un (by omega), pk_un (by omega), pk_un (by omega)]; done)⟩)) ⟨a1, a2, pk_us, pk_us, pk_us, pk_us, by omega, st_A a8 (by omega) (by rw [ev, ew]), a9⟩ (by rw [show g + 1 = g + 2 - 2 + 1 by omega]; exact nx2) hqs' pk_us (by omega) hphi)
  rw [hc]
  exact y_op6 (o := 0) (by omega) (by omega) hx (by omega) hn hF a1 la bad hc a6 a7 (by omega) (fun z' => absurd (ew.trans z') z) (fun _ v e => by subst e; exact K)
theorem rn_o7 {t f a hh q st m p x : Nat} {q0 : Nat → Int32} (hV : rn_V M p x n xim xic xih xbp) (ih : rn_H x p q0 M m xrc xbc xfc xrn xra xfi xfp xgn xac xlr xhm xrp xrA xrB xrC xby xhd xst xbg xco xen xre xld xim xic xih xif xop xbp xbq xsc xna xhe xlo xsk yru ypl ynu yps yfi yac yre yme yrp yrq yrl yby yle ypr ywa ybp ybq ybo ysc yfn yat yhi ylo yen) (ht : t < 6) (hst : st + (m + 1) ≤ 2000) (hW : lv_W (re_b M p) p t xna xhe xlo xsk yfn yat yhi ylo yen) (hA : lv_A (re_b M p) p t f a hh xna xhe xlo xsk yfn yat yhi ylo yen) (hR : rr_R (re_b M p) f a hh)
    (hqs : ∀ y, y ≠ x → xbq y = q0 y) (hq : xbq x = nI q) (hq2 : q ≤ 2000) (hcq : pl_C (re_b M p) f a ≤ q) (hphi : q - pl_C (re_b M p) f a + pl_T (re_b M p) f (a + pl_sz (re_b M p a)) ≤ m) (hc : re_b M p a = 7) :
    rn_E x p q0 (m + 1) st xrc xbc xfc xrn xra xfi xfp xgn (nI (t + 1)) 0 xhm xrp xrA xrB xrC xby xhd xst xbg xco xen xre xld xim xic xih xif xop xbp xbq xsc xna xhe xlo xsk yru ypl ynu yps yfi (nI (t + 1)) 0 xhm yrp yrq yrl (fun i => nI (M i)) yle ypr ywa ybp xbq ybo xsc yfn yat yhi ylo yen := by
  have hA' := hA
  obtain ⟨a1, a2, a3, a4, a5, a6, a7, a8, a9⟩ := hA'
  obtain ⟨hp, hx, hv, ⟨hn, hF, hff⟩, him, hbp, hih⟩ := id hV
  have hI := hR.1
  have la := hI.1
  have he := pl_ef hF a1
  have bad := (hff f a1).1 a hI
  have rs := rr_s (hff f a1).2.2 (hff f a1).2.1 hR
  have hxc : xim (p * 120 + a) = nI 7 := by rw [him a (by omega), hc]
  have hqs' : ∀ y, y ≠ x → upd xbq x (nI (q - pl_C (re_b M p) f a)) y = q0 y := fun y hy => by rw [pk_un hy]; exact hqs y hy
  have tk : pl_tk (re_b M p) a = 2 := by simp [pl_tk, hc]
  have gv : pl_gv (re_b M p a) = 1 := by rw [hc]; rfl
  rw [tk, gv] at rs
  have esz : pl_sz (re_b M p a) = 1 := by rw [hc]; rfl
  rw [esz] at rs hphi
  obtain ⟨nx1, nx2⟩ := rs.2.2.2 (by omega) (by omega)
  obtain ⟨g, rfl⟩ : ∃ g, hh = g + 2 := ⟨hh - 2, by have := rs.1; omega⟩
  have ev : xsk (t * 6 + g) = yen (t * 7 + g) := a8 g (by omega)
  have ew : xsk (t * 6 + (g + 1)) = yen (t * 7 + (g + 1)) := a8 (g + 1) (by omega)
  refine rn_next hV ht hA hI hq hq2 (by omega) hcq (fun P K => x_op7 (o := 0) (by omega) hp hx (by omega) hxc a5 (by omega) (fun _ v e => by subst e; exact K)) (fun P K => ?_) (ih (t) (f) (a + 1) (g + 1) (q - pl_C (re_b M p) f a) (st + 1) (xhm) (upd xbq x (nI (q - pl_C (re_b M p) f a))) (xsc) (upd xna t (nI (p * 120 + (a + 1)))) (upd (upd (upd xhe t (nI (g + 1))) t (nI g)) t (nI (g + 1))) (xlo) (upd xsk (t * 6 + g) (al_v 7 (xsk (t * 6 + g)) (xsk (t * 6 + (g + 1))))) (yfn) (upd yat t (nI (p * 120 + (a + 1)))) (upd (upd yhi t (nI g)) t (nI (g + 1))) (ylo) (upd yen (t * 7 + g) (al_v 7 (yen (t * 7 + g)) (yen (t * 7 + (g + 1))))) ht (by omega) (lv_c hW (fun l hl => ⟨by first | rfl | (rw [pk_un (by omega)]; done) | (rw [pk_un (by omega), pk_un (by omega)]; done) | (rw [pk_un (by omega), pk_un (by omega), pk_un (by omega)]; done), by first | rfl | (rw [pk_un (by omega)]; done) | (rw [pk_un (by omega), pk_un (by omega)]; done) | (rw [pk_un (by omega), pk_un (by omega), pk_un (by omega)]; done), by first | rfl | (rw [pk_un (by omega)]; done) | (rw [pk_un (by omega), pk_un (by omega)]; done) | (rw [pk_un (by omega), pk_un (by omega), pk_un (by omega)]; done), by first | rfl | (rw [pk_un (by omega)]; done) | (rw [pk_un (by omega), pk_un (by omega)]; done) | (rw [pk_un (by omega), pk_un (by omega), pk_un (by omega)]; done), by first | rfl | (rw [pk_un (by omega)]; done) | (rw [pk_un (by omega), pk_un (by omega)]; done) | (rw [pk_un (by omega), pk_un (by omega), pk_un (by omega)]; done), fun j hj => by first | rfl | (rw [pk_un (by omega)]; done) | (rw [pk_un (by omega), pk_un (by omega)]; done) | (rw [pk_un (by omega), pk_un (by omega), pk_un (by omega)]; done), fun j hj => by first | rfl | (rw [pk_un (by omega)]; done) | (rw [pk_un (by omega), pk_un (by omega)]; done) | (rw [pk_un (by omega), pk_un (by omega), pk_un (by omega)]; done), fun i hi => by first | rfl | (rw [pk_un (by omega)]; done) | (rw [pk_un (by omega), pk_un (by omega)]; done) | (rw [pk_un (by omega), pk_un (by omega), pk_un (by omega)]; done), fun i hi => by first | rfl | (rw [pk_un (by omega)]; done) | (rw [pk_un (by omega), pk_un (by omega)]; done) | (rw [pk_un (by omega), pk_un (by omega), pk_un (by omega)]; done)⟩)) ⟨a1, a2, pk_us, pk_us, pk_us, pk_us, by omega, st_A a8 (by omega) (by rw [ev, ew]), a9⟩ (by rw [show g + 1 = g + 2 - 2 + 1 by omega]; exact nx2) hqs' pk_us (by omega) hphi)
  rw [hc]
  exact y_op7 (o := 0) (by omega) (by omega) hx (by omega) hn hF a1 la bad hc a6 a7 (by omega) (fun v e => by subst e; exact K)
theorem rn_o2 {t f a hh q st m p x : Nat} {q0 : Nat → Int32} (hV : rn_V M p x n xim xic xih xbp) (ih : rn_H x p q0 M m xrc xbc xfc xrn xra xfi xfp xgn xac xlr xhm xrp xrA xrB xrC xby xhd xst xbg xco xen xre xld xim xic xih xif xop xbp xbq xsc xna xhe xlo xsk yru ypl ynu yps yfi yac yre yme yrp yrq yrl yby yle ypr ywa ybp ybq ybo ysc yfn yat yhi ylo yen) (ht : t < 6) (hst : st + (m + 1) ≤ 2000) (hW : lv_W (re_b M p) p t xna xhe xlo xsk yfn yat yhi ylo yen) (hA : lv_A (re_b M p) p t f a hh xna xhe xlo xsk yfn yat yhi ylo yen) (hR : rr_R (re_b M p) f a hh)
    (hqs : ∀ y, y ≠ x → xbq y = q0 y) (hq : xbq x = nI q) (hq2 : q ≤ 2000) (hcq : pl_C (re_b M p) f a ≤ q) (hphi : q - pl_C (re_b M p) f a + pl_T (re_b M p) f (a + pl_sz (re_b M p a)) ≤ m) (hc : re_b M p a = 2) :
    rn_E x p q0 (m + 1) st xrc xbc xfc xrn xra xfi xfp xgn (nI (t + 1)) 0 xhm xrp xrA xrB xrC xby xhd xst xbg xco xen xre xld xim xic xih xif xop xbp xbq xsc xna xhe xlo xsk yru ypl ynu yps yfi (nI (t + 1)) 0 xhm yrp yrq yrl (fun i => nI (M i)) yle ypr ywa ybp xbq ybo xsc yfn yat yhi ylo yen := by
  have hA' := hA
  obtain ⟨a1, a2, a3, a4, a5, a6, a7, a8, a9⟩ := hA'
  obtain ⟨hp, hx, hv, ⟨hn, hF, hff⟩, him, hbp, hih⟩ := id hV
  have hI := hR.1
  have la := hI.1
  have he := pl_ef hF a1
  have bad := (hff f a1).1 a hI
  have rs := rr_s (hff f a1).2.2 (hff f a1).2.1 hR
  have hxc : xim (p * 120 + a) = nI 2 := by rw [him a (by omega), hc]
  have hqs' : ∀ y, y ≠ x → upd xbq x (nI (q - pl_C (re_b M p) f a)) y = q0 y := fun y hy => by rw [pk_un hy]; exact hqs y hy
  have tk : pl_tk (re_b M p) a = 1 := by simp [pl_tk, hc]
  have gv : pl_gv (re_b M p a) = 0 := by rw [hc]; rfl
  rw [tk, gv] at rs
  have esz : pl_sz (re_b M p a) = 2 := by rw [hc]; rfl
  rw [esz] at rs hphi
  have hw : a + 1 < pl_e (re_b M p) f := pl_wide bad esz
  have hxo : xim (p * 120 + (a + 1)) = nI (re_b M p (a + 1)) := him _ (by omega)
  have hol : re_b M p (a + 1) < pl_li (re_b M p) f (re_b M p a) := pl_ol bad esz
  obtain ⟨nx1, nx2⟩ := rs.2.2.2 (by omega) (by omega)
  obtain ⟨g, rfl⟩ : ∃ g, hh = g + 1 := ⟨hh - 1, by have := rs.1; omega⟩
  have ho5 : re_b M p (a + 1) < 5 := by
    have h1 := hF.2.2.2.2.1 f a1
    have h2 : pl_li (re_b M p) f (re_b M p a) = re_b M p (pl_hd (re_b M p) f) + re_b M p (pl_hd (re_b M p) f + 1) := by rw [hc]; rfl
    omega
  refine rn_next hV ht hA hI hq hq2 (by omega) hcq (fun P K => x_op2 (by omega) hp hx (by omega) hxc hxo a5 (by omega) ho5 K) (fun P K => ?_) (ih (t) (f) (a + 2) (g) (q - pl_C (re_b M p) f a) (st + 1) (xhm) (upd xbq x (nI (q - pl_C (re_b M p) f a))) (xsc) (upd xna t (nI (p * 120 + (a + 2)))) (upd xhe t (nI g)) (upd xlo (t * 5 + re_b M p (a + 1)) (xsk (t * 6 + g))) (xsk) (yfn) (upd yat t (nI (p * 120 + (a + 2)))) (upd yhi t (nI g)) (upd ylo (t * 5 + re_b M p (a + 1)) (yen (t * 7 + g))) (yen) ht (by omega) (lv_c hW (fun l hl => ⟨by first | rfl | (rw [pk_un (by omega)]; done) | (rw [pk_un (by omega), pk_un (by omega)]; done) | (rw [pk_un (by omega), pk_un (by omega), pk_un (by omega)]; done), by first | rfl | (rw [pk_un (by omega)]; done) | (rw [pk_un (by omega), pk_un (by omega)]; done) | (rw [pk_un (by omega), pk_un (by omega), pk_un (by omega)]; done), by first | rfl | (rw [pk_un (by omega)]; done) | (rw [pk_un (by omega), pk_un (by omega)]; done) | (rw [pk_un (by omega), pk_un (by omega), pk_un (by omega)]; done), by first | rfl | (rw [pk_un (by omega)]; done) | (rw [pk_un (by omega), pk_un (by omega)]; done) | (rw [pk_un (by omega), pk_un (by omega), pk_un (by omega)]; done), by first | rfl | (rw [pk_un (by omega)]; done) | (rw [pk_un (by omega), pk_un (by omega)]; done) | (rw [pk_un (by omega), pk_un (by omega), pk_un (by omega)]; done), fun j hj => by first | rfl | (rw [pk_un (by omega)]; done) | (rw [pk_un (by omega), pk_un (by omega)]; done) | (rw [pk_un (by omega), pk_un (by omega), pk_un (by omega)]; done), fun j hj => by first | rfl | (rw [pk_un (by omega)]; done) | (rw [pk_un (by omega), pk_un (by omega)]; done) | (rw [pk_un (by omega), pk_un (by omega), pk_un (by omega)]; done), fun i hi => by first | rfl | (rw [pk_un (by omega)]; done) | (rw [pk_un (by omega), pk_un (by omega)]; done) | (rw [pk_un (by omega), pk_un (by omega), pk_un (by omega)]; done), fun i hi => by first | rfl | (rw [pk_un (by omega)]; done) | (rw [pk_un (by omega), pk_un (by omega)]; done) | (rw [pk_un (by omega), pk_un (by omega), pk_un (by omega)]; done)⟩)) ⟨a1, a2, pk_us, pk_us, pk_us, pk_us, by omega, fun j hj => a8 j (by omega), lo_A a9 (a8 g (by omega))⟩ (by rw [show g = g + 1 - 1 + 0 by omega]; exact nx2) hqs' pk_us (by omega) hphi)
  rw [hc]
  exact y_op2 (by omega) (by omega) hx (by omega) hn hF a1 la bad hc rfl a6 a7 ho5 K
theorem rn_o8 {t f a hh q st m p x : Nat} {q0 : Nat → Int32} (hV : rn_V M p x n xim xic xih xbp) (ih : rn_H x p q0 M m xrc xbc xfc xrn xra xfi xfp xgn xac xlr xhm xrp xrA xrB xrC xby xhd xst xbg xco xen xre xld xim xic xih xif xop xbp xbq xsc xna xhe xlo xsk yru ypl ynu yps yfi yac yre yme yrp yrq yrl yby yle ypr ywa ybp ybq ybo ysc yfn yat yhi ylo yen) (ht : t < 6) (hst : st + (m + 1) ≤ 2000) (hW : lv_W (re_b M p) p t xna xhe xlo xsk yfn yat yhi ylo yen) (hA : lv_A (re_b M p) p t f a hh xna xhe xlo xsk yfn yat yhi ylo yen) (hR : rr_R (re_b M p) f a hh)
    (hqs : ∀ y, y ≠ x → xbq y = q0 y) (hq : xbq x = nI q) (hq2 : q ≤ 2000) (hcq : pl_C (re_b M p) f a ≤ q) (hphi : q - pl_C (re_b M p) f a + pl_T (re_b M p) f (a + pl_sz (re_b M p a)) ≤ m) (hc : re_b M p a = 8) :
    rn_E x p q0 (m + 1) st xrc xbc xfc xrn xra xfi xfp xgn (nI (t + 1)) 0 xhm xrp xrA xrB xrC xby xhd xst xbg xco xen xre xld xim xic xih xif xop xbp xbq xsc xna xhe xlo xsk yru ypl ynu yps yfi (nI (t + 1)) 0 xhm yrp yrq yrl (fun i => nI (M i)) yle ypr ywa ybp xbq ybo xsc yfn yat yhi ylo yen := by
  have hA' := hA
  obtain ⟨a1, a2, a3, a4, a5, a6, a7, a8, a9⟩ := hA'
  obtain ⟨hp, hx, hv, ⟨hn, hF, hff⟩, him, hbp, hih⟩ := id hV
  have hI := hR.1
  have la := hI.1
  have he := pl_ef hF a1
  have bad := (hff f a1).1 a hI
  have rs := rr_s (hff f a1).2.2 (hff f a1).2.1 hR
  have hxc : xim (p * 120 + a) = nI 8 := by rw [him a (by omega), hc]
  have hqs' : ∀ y, y ≠ x → upd xbq x (nI (q - pl_C (re_b M p) f a)) y = q0 y := fun y hy => by rw [pk_un hy]; exact hqs y hy
  have tk : pl_tk (re_b M p) a = 1 := by simp [pl_tk, hc]
  have gv : pl_gv (re_b M p a) = 2 := by rw [hc]; rfl
  rw [tk, gv] at rs
  have esz : pl_sz (re_b M p a) = 1 := by rw [hc]; rfl
  rw [esz] at rs hphi
  obtain ⟨nx1, nx2⟩ := rs.2.2.2 (by omega) (by omega)
  obtain ⟨g, rfl⟩ : ∃ g, hh = g + 1 := ⟨hh - 1, by have := rs.1; omega⟩
  have ev : xsk (t * 6 + g) = yen (t * 7 + g) := a8 g (by omega)
  have hl : g < 5 := by have := rs.2.1; omega
  refine rn_next hV ht hA hI hq hq2 (by omega) hcq (fun P K => x_op8 (o := 0) (by omega) hp hx (by omega) hxc a5 hl K) (fun P K => ?_) (ih (t) (f) (a + 1) (g + 1 + 1) (q - pl_C (re_b M p) f a) (st + 1) (xhm) (upd xbq x (nI (q - pl_C (re_b M p) f a))) (xsc) (upd xna t (nI (p * 120 + (a + 1)))) (upd (upd (upd xhe t (nI g)) t (nI (g + 1))) t (nI (g + 1 + 1))) (xlo) (upd (upd xsk (t * 6 + g) (xsk (t * 6 + g))) (t * 6 + (g + 1)) (xsk (t * 6 + g))) (yfn) (upd yat t (nI (p * 120 + (a + 1)))) (upd (upd (upd yhi t (nI g)) t (nI (g + 1))) t (nI (g + 1 + 1))) (ylo) (upd (upd yen (t * 7 + g) (yen (t * 7 + g))) (t * 7 + (g + 1)) (yen (t * 7 + g))) ht (by omega) (lv_c hW (fun l hl => ⟨by first | rfl | (rw [pk_un (by omega)]; done) | (rw [pk_un (by omega), pk_un (by omega)]; done) | (rw [pk_un (by omega), pk_un (by omega), pk_un (by omega)]; done), by first | rfl | (rw [pk_un (by omega)]; done) | (rw [pk_un (by omega), pk_un (by omega)]; done) | (rw [pk_un (by omega), pk_un (by omega), pk_un (by omega)]; done), by first | rfl | (rw [pk_un (by omega)]; done) | (rw [pk_un (by omega), pk_un (by omega)]; done) | (rw [pk_un (by omega), pk_un (by omega), pk_un (by omega)]; done), by first | rfl | (rw [pk_un (by omega)]; done) | (rw [pk_un (by omega), pk_un (by omega)]; done) | (rw [pk_un (by omega), pk_un (by omega), pk_un (by omega)]; done), by first | rfl | (rw [pk_un (by omega)]; done) | (rw [pk_un (by omega), pk_un (by omega)]; done) | (rw [pk_un (by omega), pk_un (by omega), pk_un (by omega)]; done), fun j hj => by first | rfl | (rw [pk_un (by omega)]; done) | (rw [pk_un (by omega), pk_un (by omega)]; done) | (rw [pk_un (by omega), pk_un (by omega), pk_un (by omega)]; done), fun j hj => by first | rfl | (rw [pk_un (by omega)]; done) | (rw [pk_un (by omega), pk_un (by omega)]; done) | (rw [pk_un (by omega), pk_un (by omega), pk_un (by omega)]; done), fun i hi => by first | rfl | (rw [pk_un (by omega)]; done) | (rw [pk_un (by omega), pk_un (by omega)]; done) | (rw [pk_un (by omega), pk_un (by omega), pk_un (by omega)]; done), fun i hi => by first | rfl | (rw [pk_un (by omega)]; done) | (rw [pk_un (by omega), pk_un (by omega)]; done) | (rw [pk_un (by omega), pk_un (by omega), pk_un (by omega)]; done)⟩)) ⟨a1, a2, pk_us, pk_us, pk_us, pk_us, by omega, st_A (st_A a8 (by omega) ev) (Nat.le_refl _) ev, a9⟩ (by rw [show g + 1 + 1 = g + 1 - 1 + 2 by omega]; exact nx2) hqs' pk_us (by omega) hphi)
  rw [hc]
  exact y_op8 (o := 0) (by omega) (by omega) hx (by omega) hn hF a1 la bad hc a6 a7 hl K
theorem rn_o9 {t f a hh q st m p x : Nat} {q0 : Nat → Int32} (hV : rn_V M p x n xim xic xih xbp) (ih : rn_H x p q0 M m xrc xbc xfc xrn xra xfi xfp xgn xac xlr xhm xrp xrA xrB xrC xby xhd xst xbg xco xen xre xld xim xic xih xif xop xbp xbq xsc xna xhe xlo xsk yru ypl ynu yps yfi yac yre yme yrp yrq yrl yby yle ypr ywa ybp ybq ybo ysc yfn yat yhi ylo yen) (ht : t < 6) (hst : st + (m + 1) ≤ 2000) (hW : lv_W (re_b M p) p t xna xhe xlo xsk yfn yat yhi ylo yen) (hA : lv_A (re_b M p) p t f a hh xna xhe xlo xsk yfn yat yhi ylo yen) (hR : rr_R (re_b M p) f a hh)
    (hqs : ∀ y, y ≠ x → xbq y = q0 y) (hq : xbq x = nI q) (hq2 : q ≤ 2000) (hcq : pl_C (re_b M p) f a ≤ q) (hphi : q - pl_C (re_b M p) f a + pl_T (re_b M p) f (a + pl_sz (re_b M p a)) ≤ m) (hc : re_b M p a = 9) :
    rn_E x p q0 (m + 1) st xrc xbc xfc xrn xra xfi xfp xgn (nI (t + 1)) 0 xhm xrp xrA xrB xrC xby xhd xst xbg xco xen xre xld xim xic xih xif xop xbp xbq xsc xna xhe xlo xsk yru ypl ynu yps yfi (nI (t + 1)) 0 xhm yrp yrq yrl (fun i => nI (M i)) yle ypr ywa ybp xbq ybo xsc yfn yat yhi ylo yen := by
  have hA' := hA
  obtain ⟨a1, a2, a3, a4, a5, a6, a7, a8, a9⟩ := hA'
  obtain ⟨hp, hx, hv, ⟨hn, hF, hff⟩, him, hbp, hih⟩ := id hV
  have hI := hR.1
  have la := hI.1
  have he := pl_ef hF a1
  have bad := (hff f a1).1 a hI
  have rs := rr_s (hff f a1).2.2 (hff f a1).2.1 hR
  have hxc : xim (p * 120 + a) = nI 9 := by rw [him a (by omega), hc]
  have hqs' : ∀ y, y ≠ x → upd xbq x (nI (q - pl_C (re_b M p) f a)) y = q0 y := fun y hy => by rw [pk_un hy]; exact hqs y hy
  have tk : pl_tk (re_b M p) a = 1 := by simp [pl_tk, hc]
  have gv : pl_gv (re_b M p a) = 0 := by rw [hc]; rfl
  rw [tk, gv] at rs
  have esz : pl_sz (re_b M p a) = 1 := by rw [hc]; rfl
  rw [esz] at rs hphi
  obtain ⟨nx1, nx2⟩ := rs.2.2.2 (by omega) (by omega)
  obtain ⟨g, rfl⟩ : ∃ g, hh = g + 1 := ⟨hh - 1, by have := rs.1; omega⟩
  refine rn_next hV ht hA hI hq hq2 (by omega) hcq (fun P K => x_op9 (o := 0) (by omega) hp hx (by omega) hxc a5 (by omega) K) (fun P K => ?_) (ih (t) (f) (a + 1) (g) (q - pl_C (re_b M p) f a) (st + 1) (xhm) (upd xbq x (nI (q - pl_C (re_b M p) f a))) (xsc) (upd xna t (nI (p * 120 + (a + 1)))) (upd xhe t (nI g)) (xlo) (xsk) (yfn) (upd yat t (nI (p * 120 + (a + 1)))) (upd yhi t (nI g)) (ylo) (yen) ht (by omega) (lv_c hW (fun l hl => ⟨by first | rfl | (rw [pk_un (by omega)]; done) | (rw [pk_un (by omega), pk_un (by omega)]; done) | (rw [pk_un (by omega), pk_un (by omega), pk_un (by omega)]; done), by first | rfl | (rw [pk_un (by omega)]; done) | (rw [pk_un (by omega), pk_un (by omega)]; done) | (rw [pk_un (by omega), pk_un (by omega), pk_un (by omega)]; done), by first | rfl | (rw [pk_un (by omega)]; done) | (rw [pk_un (by omega), pk_un (by omega)]; done) | (rw [pk_un (by omega), pk_un (by omega), pk_un (by omega)]; done), by first | rfl | (rw [pk_un (by omega)]; done) | (rw [pk_un (by omega), pk_un (by omega)]; done) | (rw [pk_un (by omega), pk_un (by omega), pk_un (by omega)]; done), by first | rfl | (rw [pk_un (by omega)]; done) | (rw [pk_un (by omega), pk_un (by omega)]; done) | (rw [pk_un (by omega), pk_un (by omega), pk_un (by omega)]; done), fun j hj => by first | rfl | (rw [pk_un (by omega)]; done) | (rw [pk_un (by omega), pk_un (by omega)]; done) | (rw [pk_un (by omega), pk_un (by omega), pk_un (by omega)]; done), fun j hj => by first | rfl | (rw [pk_un (by omega)]; done) | (rw [pk_un (by omega), pk_un (by omega)]; done) | (rw [pk_un (by omega), pk_un (by omega), pk_un (by omega)]; done), fun i hi => by first | rfl | (rw [pk_un (by omega)]; done) | (rw [pk_un (by omega), pk_un (by omega)]; done) | (rw [pk_un (by omega), pk_un (by omega), pk_un (by omega)]; done), fun i hi => by first | rfl | (rw [pk_un (by omega)]; done) | (rw [pk_un (by omega), pk_un (by omega)]; done) | (rw [pk_un (by omega), pk_un (by omega), pk_un (by omega)]; done)⟩)) ⟨a1, a2, pk_us, pk_us, pk_us, pk_us, by omega, fun j hj => a8 j (by omega), a9⟩ (by rw [show g = g + 1 - 1 + 0 by omega]; exact nx2) hqs' pk_us (by omega) hphi)
  rw [hc]
  exact y_op9 (o := 0) (by omega) (by omega) hx (by omega) hn hF a1 la bad hc a6 a7 K
theorem rn_o15 {t f a hh q st m p x : Nat} {q0 : Nat → Int32} (hV : rn_V M p x n xim xic xih xbp) (ih : rn_H x p q0 M m xrc xbc xfc xrn xra xfi xfp xgn xac xlr xhm xrp xrA xrB xrC xby xhd xst xbg xco xen xre xld xim xic xih xif xop xbp xbq xsc xna xhe xlo xsk yru ypl ynu yps yfi yac yre yme yrp yrq yrl yby yle ypr ywa ybp ybq ybo ysc yfn yat yhi ylo yen) (ht : t < 6) (hst : st + (m + 1) ≤ 2000) (hW : lv_W (re_b M p) p t xna xhe xlo xsk yfn yat yhi ylo yen) (hA : lv_A (re_b M p) p t f a hh xna xhe xlo xsk yfn yat yhi ylo yen) (hR : rr_R (re_b M p) f a hh)
    (hqs : ∀ y, y ≠ x → xbq y = q0 y) (hq : xbq x = nI q) (hq2 : q ≤ 2000) (hcq : pl_C (re_b M p) f a ≤ q) (hphi : q - pl_C (re_b M p) f a + pl_T (re_b M p) f (a + pl_sz (re_b M p a)) ≤ m) (hc : re_b M p a = 15) :
    rn_E x p q0 (m + 1) st xrc xbc xfc xrn xra xfi xfp xgn (nI (t + 1)) 0 xhm xrp xrA xrB xrC xby xhd xst xbg xco xen xre xld xim xic xih xif xop xbp xbq xsc xna xhe xlo xsk yru ypl ynu yps yfi (nI (t + 1)) 0 xhm yrp yrq yrl (fun i => nI (M i)) yle ypr ywa ybp xbq ybo xsc yfn yat yhi ylo yen := by
  have hA' := hA
  obtain ⟨a1, a2, a3, a4, a5, a6, a7, a8, a9⟩ := hA'
  obtain ⟨hp, hx, hv, ⟨hn, hF, hff⟩, him, hbp, hih⟩ := id hV
  have hI := hR.1
  have la := hI.1
  have he := pl_ef hF a1
  have bad := (hff f a1).1 a hI
  have rs := rr_s (hff f a1).2.2 (hff f a1).2.1 hR
  have hxc : xim (p * 120 + a) = nI 15 := by rw [him a (by omega), hc]
  have hqs' : ∀ y, y ≠ x → upd xbq x (nI (q - pl_C (re_b M p) f a)) y = q0 y := fun y hy => by rw [pk_un hy]; exact hqs y hy
  have tk : pl_tk (re_b M p) a = 1 := by simp [pl_tk, hc]
  have gv : pl_gv (re_b M p a) = 0 := by rw [hc]; rfl
  rw [tk, gv] at rs
  have esz : pl_sz (re_b M p a) = 2 := by rw [hc]; rfl
  rw [esz] at rs hphi
  have hw : a + 1 < pl_e (re_b M p) f := pl_wide bad esz
  have hxo : xim (p * 120 + (a + 1)) = nI (re_b M p (a + 1)) := him _ (by omega)
  have hol : re_b M p (a + 1) < pl_li (re_b M p) f (re_b M p a) := pl_ol bad esz
  obtain ⟨nx1, nx2⟩ := rs.2.2.2 (by omega) (by omega)
  obtain ⟨g, rfl⟩ : ∃ g, hh = g + 1 := ⟨hh - 1, by have := rs.1; omega⟩
  have ho4 : re_b M p (a + 1) < 4 := by
    have h2 : pl_li (re_b M p) f (re_b M p a) = 4 := by rw [hc]; rfl
    omega
  have ev : xsk (t * 6 + g) = yen (t * 7 + g) := a8 g (by omega)
  refine rn_next hV ht hA hI hq hq2 (by omega) hcq (fun P K => x_op15 (by omega) hp hx (by omega) hxc hxo a5 (by omega) ho4 K) (fun P K => ?_) (ih (t) (f) (a + 2) (g) (q - pl_C (re_b M p) f a) (st + 1) (xhm) (upd xbq x (nI (q - pl_C (re_b M p) f a))) (upd xsc (x * 4 + re_b M p (a + 1)) (xsk (t * 6 + g))) (upd xna t (nI (p * 120 + (a + 2)))) (upd xhe t (nI g)) (xlo) (xsk) (yfn) (upd yat t (nI (p * 120 + (a + 2)))) (upd yhi t (nI g)) (ylo) (yen) ht (by omega) (lv_c hW (fun l hl => ⟨by first | rfl | (rw [pk_un (by omega)]; done) | (rw [pk_un (by omega), pk_un (by omega)]; done) | (rw [pk_un (by omega), pk_un (by omega), pk_un (by omega)]; done), by first | rfl | (rw [pk_un (by omega)]; done) | (rw [pk_un (by omega), pk_un (by omega)]; done) | (rw [pk_un (by omega), pk_un (by omega), pk_un (by omega)]; done), by first | rfl | (rw [pk_un (by omega)]; done) | (rw [pk_un (by omega), pk_un (by omega)]; done) | (rw [pk_un (by omega), pk_un (by omega), pk_un (by omega)]; done), by first | rfl | (rw [pk_un (by omega)]; done) | (rw [pk_un (by omega), pk_un (by omega)]; done) | (rw [pk_un (by omega), pk_un (by omega), pk_un (by omega)]; done), by first | rfl | (rw [pk_un (by omega)]; done) | (rw [pk_un (by omega), pk_un (by omega)]; done) | (rw [pk_un (by omega), pk_un (by omega), pk_un (by omega)]; done), fun j hj => by first | rfl | (rw [pk_un (by omega)]; done) | (rw [pk_un (by omega), pk_un (by omega)]; done) | (rw [pk_un (by omega), pk_un (by omega), pk_un (by omega)]; done), fun j hj => by first | rfl | (rw [pk_un (by omega)]; done) | (rw [pk_un (by omega), pk_un (by omega)]; done) | (rw [pk_un (by omega), pk_un (by omega), pk_un (by omega)]; done), fun i hi => by first | rfl | (rw [pk_un (by omega)]; done) | (rw [pk_un (by omega), pk_un (by omega)]; done) | (rw [pk_un (by omega), pk_un (by omega), pk_un (by omega)]; done), fun i hi => by first | rfl | (rw [pk_un (by omega)]; done) | (rw [pk_un (by omega), pk_un (by omega)]; done) | (rw [pk_un (by omega), pk_un (by omega), pk_un (by omega)]; done)⟩)) ⟨a1, a2, pk_us, pk_us, pk_us, pk_us, by omega, fun j hj => a8 j (by omega), a9⟩ (by rw [show g = g + 1 - 1 + 0 by omega]; exact nx2) hqs' pk_us (by omega) hphi)
  rw [hc]
  rw [ev] at K
  exact y_op15 (by omega) (by omega) hx (by omega) hn hF a1 la bad hc rfl a6 a7 ho4 K
theorem rn_o10 {t f a hh q st m p x : Nat} {q0 : Nat → Int32} (hV : rn_V M p x n xim xic xih xbp) (ih : rn_H x p q0 M m xrc xbc xfc xrn xra xfi xfp xgn xac xlr xhm xrp xrA xrB xrC xby xhd xst xbg xco xen xre xld xim xic xih xif xop xbp xbq xsc xna xhe xlo xsk yru ypl ynu yps yfi yac yre yme yrp yrq yrl yby yle ypr ywa ybp ybq ybo ysc yfn yat yhi ylo yen) (ht : t < 6) (hst : st + (m + 1) ≤ 2000) (hW : lv_W (re_b M p) p t xna xhe xlo xsk yfn yat yhi ylo yen) (hA : lv_A (re_b M p) p t f a hh xna xhe xlo xsk yfn yat yhi ylo yen) (hR : rr_R (re_b M p) f a hh)
    (hqs : ∀ y, y ≠ x → xbq y = q0 y) (hq : xbq x = nI q) (hq2 : q ≤ 2000) (hcq : pl_C (re_b M p) f a ≤ q) (hphi : q - pl_C (re_b M p) f a + pl_T (re_b M p) f (a + pl_sz (re_b M p a)) ≤ m) (hc : re_b M p a = 10) :
    rn_E x p q0 (m + 1) st xrc xbc xfc xrn xra xfi xfp xgn (nI (t + 1)) 0 xhm xrp xrA xrB xrC xby xhd xst xbg xco xen xre xld xim xic xih xif xop xbp xbq xsc xna xhe xlo xsk yru ypl ynu yps yfi (nI (t + 1)) 0 xhm yrp yrq yrl (fun i => nI (M i)) yle ypr ywa ybp xbq ybo xsc yfn yat yhi ylo yen := by
  have hA' := hA
  obtain ⟨a1, a2, a3, a4, a5, a6, a7, a8, a9⟩ := hA'
  obtain ⟨hp, hx, hv, ⟨hn, hF, hff⟩, him, hbp, hih⟩ := id hV
  have hI := hR.1
  have la := hI.1
  have he := pl_ef hF a1
  have bad := (hff f a1).1 a hI
  have rs := rr_s (hff f a1).2.2 (hff f a1).2.1 hR
  have hxc : xim (p * 120 + a) = nI 10 := by rw [him a (by omega), hc]
  have hqs' : ∀ y, y ≠ x → upd xbq x (nI (q - pl_C (re_b M p) f a)) y = q0 y := fun y hy => by rw [pk_un hy]; exact hqs y hy
  have tk : pl_tk (re_b M p) a = 0 := by simp [pl_tk, hc]
  have gv : pl_gv (re_b M p a) = 0 := by rw [hc]; rfl
  rw [tk, gv] at rs
  have esz : pl_sz (re_b M p a) = 2 := by rw [hc]; rfl
  rw [esz] at rs hphi
  have hw : a + 1 < pl_e (re_b M p) f := pl_wide bad esz
  have hxo : xim (p * 120 + (a + 1)) = nI (re_b M p (a + 1)) := him _ (by omega)
  have hol : re_b M p (a + 1) < pl_li (re_b M p) f (re_b M p a) := pl_ol bad esz
  obtain ⟨j, ej, lj, rj⟩ := rs.2.2.1 (by omega)
  have hL : pl_L (re_b M p) f j := Or.inr ⟨a, hI, Or.inl ⟨by omega, ej⟩⟩
  refine rn_next hV ht hA hI hq hq2 (by omega) hcq (fun P K => x_op10 (h := 0) (by omega) hp hx (by omega) hxc hxo (y_hvb hv p _) ej (by omega) K) (fun P K => ?_) (ih (t) (f) (j) (hh) (q - pl_C (re_b M p) f a) (st + 1) (xhm) (upd xbq x (nI (q - pl_C (re_b M p) f a))) (xsc) (upd (upd xna t (nI (p * 120 + (a + 2)))) t (nI (p * 120 + j))) (xhe) (xlo) (xsk) (yfn) (upd yat t (nI (p * 120 + j))) (upd yhi t (nI hh)) (ylo) (yen) ht (by omega) (lv_c hW (fun l hl => ⟨by first | rfl | (rw [pk_un (by omega)]; done) | (rw [pk_un (by omega), pk_un (by omega)]; done) | (rw [pk_un (by omega), pk_un (by omega), pk_un (by omega)]; done), by first | rfl | (rw [pk_un (by omega)]; done) | (rw [pk_un (by omega), pk_un (by omega)]; done) | (rw [pk_un (by omega), pk_un (by omega), pk_un (by omega)]; done), by first | rfl | (rw [pk_un (by omega)]; done) | (rw [pk_un (by omega), pk_un (by omega)]; done) | (rw [pk_un (by omega), pk_un (by omega), pk_un (by omega)]; done), by first | rfl | (rw [pk_un (by omega)]; done) | (rw [pk_un (by omega), pk_un (by omega)]; done) | (rw [pk_un (by omega), pk_un (by omega), pk_un (by omega)]; done), by first | rfl | (rw [pk_un (by omega)]; done) | (rw [pk_un (by omega), pk_un (by omega)]; done) | (rw [pk_un (by omega), pk_un (by omega), pk_un (by omega)]; done), fun j hj => by first | rfl | (rw [pk_un (by omega)]; done) | (rw [pk_un (by omega), pk_un (by omega)]; done) | (rw [pk_un (by omega), pk_un (by omega), pk_un (by omega)]; done), fun j hj => by first | rfl | (rw [pk_un (by omega)]; done) | (rw [pk_un (by omega), pk_un (by omega)]; done) | (rw [pk_un (by omega), pk_un (by omega), pk_un (by omega)]; done), fun i hi => by first | rfl | (rw [pk_un (by omega)]; done) | (rw [pk_un (by omega), pk_un (by omega)]; done) | (rw [pk_un (by omega), pk_un (by omega), pk_un (by omega)]; done), fun i hi => by first | rfl | (rw [pk_un (by omega)]; done) | (rw [pk_un (by omega), pk_un (by omega)]; done) | (rw [pk_un (by omega), pk_un (by omega), pk_un (by omega)]; done)⟩)) ⟨a1, a2, pk_us, pk_us, a5, pk_us, a7, a8, a9⟩ (by rw [show hh = hh - 0 + 0 by omega]; exact rj) hqs' pk_us (by omega) (by rw [pl_T_L hL]; omega))
  rw [hc]
  exact y_op10 (by omega) (by omega) hx (by omega) hn hF a1 la bad hc rfl a6 a7 hv ej (by omega) K
theorem rn_o11 {t f a hh q st m p x : Nat} {q0 : Nat → Int32} (hV : rn_V M p x n xim xic xih xbp) (ih : rn_H x p q0 M m xrc xbc xfc xrn xra xfi xfp xgn xac xlr xhm xrp xrA xrB xrC xby xhd xst xbg xco xen xre xld xim xic xih xif xop xbp xbq xsc xna xhe xlo xsk yru ypl ynu yps yfi yac yre yme yrp yrq yrl yby yle ypr ywa ybp ybq ybo ysc yfn yat yhi ylo yen) (ht : t < 6) (hst : st + (m + 1) ≤ 2000) (hW : lv_W (re_b M p) p t xna xhe xlo xsk yfn yat yhi ylo yen) (hA : lv_A (re_b M p) p t f a hh xna xhe xlo xsk yfn yat yhi ylo yen) (hR : rr_R (re_b M p) f a hh)
    (hqs : ∀ y, y ≠ x → xbq y = q0 y) (hq : xbq x = nI q) (hq2 : q ≤ 2000) (hcq : pl_C (re_b M p) f a ≤ q) (hphi : q - pl_C (re_b M p) f a + pl_T (re_b M p) f (a + pl_sz (re_b M p a)) ≤ m) (hc : re_b M p a = 11) :
    rn_E x p q0 (m + 1) st xrc xbc xfc xrn xra xfi xfp xgn (nI (t + 1)) 0 xhm xrp xrA xrB xrC xby xhd xst xbg xco xen xre xld xim xic xih xif xop xbp xbq xsc xna xhe xlo xsk yru ypl ynu yps yfi (nI (t + 1)) 0 xhm yrp yrq yrl (fun i => nI (M i)) yle ypr ywa ybp xbq ybo xsc yfn yat yhi ylo yen := by
  have hA' := hA
  obtain ⟨a1, a2, a3, a4, a5, a6, a7, a8, a9⟩ := hA'
  obtain ⟨hp, hx, hv, ⟨hn, hF, hff⟩, him, hbp, hih⟩ := id hV
  have hI := hR.1
  have la := hI.1
  have he := pl_ef hF a1
  have bad := (hff f a1).1 a hI
  have rs := rr_s (hff f a1).2.2 (hff f a1).2.1 hR
  have hxc : xim (p * 120 + a) = nI 11 := by rw [him a (by omega), hc]
  have hqs' : ∀ y, y ≠ x → upd xbq x (nI (q - pl_C (re_b M p) f a)) y = q0 y := fun y hy => by rw [pk_un hy]; exact hqs y hy
  have tk : pl_tk (re_b M p) a = 1 := by simp [pl_tk, hc]
  have gv : pl_gv (re_b M p a) = 0 := by rw [hc]; rfl
  rw [tk, gv] at rs
  have esz : pl_sz (re_b M p a) = 2 := by rw [hc]; rfl
  rw [esz] at rs hphi
  have hw : a + 1 < pl_e (re_b M p) f := pl_wide bad esz
  have hxo : xim (p * 120 + (a + 1)) = nI (re_b M p (a + 1)) := him _ (by omega)
  have hol : re_b M p (a + 1) < pl_li (re_b M p) f (re_b M p a) := pl_ol bad esz
  obtain ⟨nx1, nx2⟩ := rs.2.2.2 (by omega) (by omega)
  obtain ⟨g, rfl⟩ : ∃ g, hh = g + 1 := ⟨hh - 1, by have := rs.1; omega⟩
  obtain ⟨j, ej, lj, rj⟩ := rs.2.2.1 (by omega)
  have hL : pl_L (re_b M p) f j := Or.inr ⟨a, hI, Or.inl ⟨by omega, ej⟩⟩
  have ev : xsk (t * 6 + g) = yen (t * 7 + g) := a8 g (by omega)
  by_cases z : xsk (t * 6 + g) = 0
  · refine rn_next hV ht hA hI hq hq2 (by omega) hcq (fun P K => x_op11 (by omega) hp hx (by omega) hxc hxo a5 (by omega) (y_hvb hv p _) ej (by omega) (fun _ => K) fun z' => absurd z z') (fun P K => ?_) (ih (t) (f) (j) (g) (q - pl_C (re_b M p) f a) (st + 1) (xhm) (upd xbq x (nI (q - pl_C (re_b M p) f a))) (xsc) (upd (upd xna t (nI (p * 120 + (a + 2)))) t (nI (p * 120 + j))) (upd xhe t (nI g)) (xlo) (xsk) (yfn) (upd yat t (nI (p * 120 + j))) (upd yhi t (nI g)) (ylo) (yen) ht (by omega) (lv_c hW (fun l hl => ⟨by first | rfl | (rw [pk_un (by omega)]; done) | (rw [pk_un (by omega), pk_un (by omega)]; done) | (rw [pk_un (by omega), pk_un (by omega), pk_un (by omega)]; done), by first | rfl | (rw [pk_un (by omega)]; done) | (rw [pk_un (by omega), pk_un (by omega)]; done) | (rw [pk_un (by omega), pk_un (by omega), pk_un (by omega)]; done), by first | rfl | (rw [pk_un (by omega)]; done) | (rw [pk_un (by omega), pk_un (by omega)]; done) | (rw [pk_un (by omega), pk_un (by omega), pk_un (by omega)]; done), by first | rfl | (rw [pk_un (by omega)]; done) | (rw [pk_un (by omega), pk_un (by omega)]; done) | (rw [pk_un (by omega), pk_un (by omega), pk_un (by omega)]; done), by first | rfl | (rw [pk_un (by omega)]; done) | (rw [pk_un (by omega), pk_un (by omega)]; done) | (rw [pk_un (by omega), pk_un (by omega), pk_un (by omega)]; done), fun j hj => by first | rfl | (rw [pk_un (by omega)]; done) | (rw [pk_un (by omega), pk_un (by omega)]; done) | (rw [pk_un (by omega), pk_un (by omega), pk_un (by omega)]; done), fun j hj => by first | rfl | (rw [pk_un (by omega)]; done) | (rw [pk_un (by omega), pk_un (by omega)]; done) | (rw [pk_un (by omega), pk_un (by omega), pk_un (by omega)]; done), fun i hi => by first | rfl | (rw [pk_un (by omega)]; done) | (rw [pk_un (by omega), pk_un (by omega)]; done) | (rw [pk_un (by omega), pk_un (by omega), pk_un (by omega)]; done), fun i hi => by first | rfl | (rw [pk_un (by omega)]; done) | (rw [pk_un (by omega), pk_un (by omega)]; done) | (rw [pk_un (by omega), pk_un (by omega), pk_un (by omega)]; done)⟩)) ⟨a1, a2, pk_us, pk_us, pk_us, pk_us, by omega, fun j hj => a8 j (by omega), a9⟩ (by rw [show g = g + 1 - 1 + 0 by omega]; exact rj) hqs' pk_us (by omega) (by rw [pl_T_L hL]; omega))
    rw [hc]
    exact y_op11 (by omega) (by omega) hx (by omega) hn hF a1 la bad hc rfl a6 a7 hv ej (by omega) (fun _ => K) fun z' => absurd (ev ▸ z) z'
  · refine rn_next hV ht hA hI hq hq2 (by omega) hcq (fun P K => x_op11 (by omega) hp hx (by omega) hxc hxo a5 (by omega) (y_hvb hv p _) ej (by omega) (fun z' => absurd z' z) fun _ => K) (fun P K => ?_) (ih (t) (f) (a + 2) (g) (q - pl_C (re_b M p) f a) (st + 1) (xhm) (upd xbq x (nI (q - pl_C (re_b M p) f a))) (xsc) (upd xna t (nI (p * 120 + (a + 2)))) (upd xhe t (nI g)) (xlo) (xsk) (yfn) (upd yat t (nI (p * 120 + (a + 2)))) (upd yhi t (nI g)) (ylo) (yen) ht (by omega) (lv_c hW (fun l hl => ⟨by first | rfl | (rw [pk_un (by omega)]; done) | (rw [pk_un (by omega), pk_un (by omega)]; done) | (rw [pk_un (by omega), pk_un (by omega), pk_un (by omega)]; done), by first | rfl | (rw [pk_un (by omega)]; done) | (rw [pk_un (by omega), pk_un (by omega)]; done) | (rw [pk_un (by omega), pk_un (by omega), pk_un (by omega)]; done), by first | rfl | (rw [pk_un (by omega)]; done) | (rw [pk_un (by omega), pk_un (by omega)]; done) | (rw [pk_un (by omega), pk_un (by omega), pk_un (by omega)]; done), by first | rfl | (rw [pk_un (by omega)]; done) | (rw [pk_un (by omega), pk_un (by omega)]; done) | (rw [pk_un (by omega), pk_un (by omega), pk_un (by omega)]; done), by first | rfl | (rw [pk_un (by omega)]; done) | (rw [pk_un (by omega), pk_un (by omega)]; done) | (rw [pk_un (by omega), pk_un (by omega), pk_un (by omega)]; done), fun j hj => by first | rfl | (rw [pk_un (by omega)]; done) | (rw [pk_un (by omega), pk_un (by omega)]; done) | (rw [pk_un (by omega), pk_un (by omega), pk_un (by omega)]; done), fun j hj => by first | rfl | (rw [pk_un (by omega)]; done) | (rw [pk_un (by omega), pk_un (by omega)]; done) | (rw [pk_un (by omega), pk_un (by omega), pk_un (by omega)]; done), fun i hi => by first | rfl | (rw [pk_un (by omega)]; done) | (rw [pk_un (by omega), pk_un (by omega)]; done) | (rw [pk_un (by omega), pk_un (by omega), pk_un (by omega)]; done), fun i hi => by first | rfl | (rw [pk_un (by omega)]; done) | (rw [pk_un (by omega), pk_un (by omega)]; done) | (rw [pk_un (by omega), pk_un (by omega), pk_un (by omega)]; done)⟩)) ⟨a1, a2, pk_us, pk_us, pk_us, pk_us, by omega, fun j hj => a8 j (by omega), a9⟩ (by rw [show g = g + 1 - 1 + 0 by omega]; exact nx2) hqs' pk_us (by omega) hphi)
    rw [hc]
    exact y_op11 (by omega) (by omega) hx (by omega) hn hF a1 la bad hc rfl a6 a7 hv ej (by omega) (fun z' => absurd (ev.trans z') z) fun _ => K
theorem rn_o13 {t f a hh q st m p x : Nat} {q0 : Nat → Int32} (hV : rn_V M p x n xim xic xih xbp) (ih : rn_H x p q0 M m xrc xbc xfc xrn xra xfi xfp xgn xac xlr xhm xrp xrA xrB xrC xby xhd xst xbg xco xen xre xld xim xic xih xif xop xbp xbq xsc xna xhe xlo xsk yru ypl ynu yps yfi yac yre yme yrp yrq yrl yby yle ypr ywa ybp ybq ybo ysc yfn yat yhi ylo yen) (ht : t < 6) (hst : st + (m + 1) ≤ 2000) (hW : lv_W (re_b M p) p t xna xhe xlo xsk yfn yat yhi ylo yen) (hA : lv_A (re_b M p) p t f a hh xna xhe xlo xsk yfn yat yhi ylo yen) (hR : rr_R (re_b M p) f a hh)
    (hqs : ∀ y, y ≠ x → xbq y = q0 y) (hq : xbq x = nI q) (hq2 : q ≤ 2000) (hcq : pl_C (re_b M p) f a ≤ q) (hphi : q - pl_C (re_b M p) f a + pl_T (re_b M p) f (a + pl_sz (re_b M p a)) ≤ m) (hc : re_b M p a = 13) :
    rn_E x p q0 (m + 1) st xrc xbc xfc xrn xra xfi xfp xgn (nI (t + 1)) 0 xhm xrp xrA xrB xrC xby xhd xst xbg xco xen xre xld xim xic xih xif xop xbp xbq xsc xna xhe xlo xsk yru ypl ynu yps yfi (nI (t + 1)) 0 xhm yrp yrq yrl (fun i => nI (M i)) yle ypr ywa ybp xbq ybo xsc yfn yat yhi ylo yen := by
  have hA' := hA
  obtain ⟨a1, a2, a3, a4, a5, a6, a7, a8, a9⟩ := hA'
  obtain ⟨hp, hx, hv, ⟨hn, hF, hff⟩, him, hbp, hih⟩ := id hV
  have hI := hR.1
  have la := hI.1
  have he := pl_ef hF a1
  have bad := (hff f a1).1 a hI
  have rs := rr_s (hff f a1).2.2 (hff f a1).2.1 hR
  have hxc : xim (p * 120 + a) = nI 13 := by rw [him a (by omega), hc]
  have hqs' : ∀ y, y ≠ x → upd xbq x (nI (q - pl_C (re_b M p) f a)) y = q0 y := fun y hy => by rw [pk_un hy]; exact hqs y hy
  have tk : pl_tk (re_b M p) a = 1 := by simp [pl_tk, hc]
  have gv : pl_gv (re_b M p a) = 1 := by rw [hc]; rfl
  rw [tk, gv] at rs
  have esz : pl_sz (re_b M p a) = 2 := by rw [hc]; rfl
  rw [esz] at rs hphi
  have hw : a + 1 < pl_e (re_b M p) f := pl_wide bad esz
  have hxo : xim (p * 120 + (a + 1)) = nI (re_b M p (a + 1)) := him _ (by omega)
  have hol : re_b M p (a + 1) < pl_li (re_b M p) f (re_b M p a) := pl_ol bad esz
  obtain ⟨nx1, nx2⟩ := rs.2.2.2 (by omega) (by omega)
  obtain ⟨g, rfl⟩ : ∃ g, hh = g + 1 := ⟨hh - 1, by have := rs.1; omega⟩
  have ho4 : re_b M p (a + 1) < re_b M p 1 := by
    have h2 : pl_li (re_b M p) f (re_b M p a) = re_b M p 1 := by rw [hc]; rfl
    omega
  have hi4 := hF.1
  have ev : xsk (t * 6 + g) = yen (t * 7 + g) := a8 g (by omega)
  refine rn_next hV ht hA hI hq hq2 (by omega) hcq (fun P K => x_op13 (by omega) hp hx (by omega) hxc hxo a5 (by omega) (by omega) hbp (him _ (by omega)) (him _ (by omega)) (him _ (by omega)) fun hm e => by subst e; exact K) (fun P K => ?_) (ih (t) (f) (a + 2) (g + 1) (q - pl_C (re_b M p) f a) (st + 1) (ho_m xhm (xsk (t * 6 + g)) (nI (re_b M p (2 + 3 * re_b M p (a + 1)))) (nI (re_b M p (2 + 3 * re_b M p (a + 1) + 1))) (nI (re_b M p (2 + 3 * re_b M p (a + 1) + 2)))) (upd xbq x (nI (q - pl_C (re_b M p) f a))) (xsc) (upd xna t (nI (p * 120 + (a + 2)))) (upd (upd xhe t (nI g)) t (nI (g + 1))) (xlo) (upd xsk (t * 6 + g) (ho_a (ho_m xhm (xsk (t * 6 + g)) (nI (re_b M p (2 + 3 * re_b M p (a + 1)))) (nI (re_b M p (2 + 3 * re_b M p (a + 1) + 1))) (nI (re_b M p (2 + 3 * re_b M p (a + 1) + 2)))))) (yfn) (upd yat t (nI (p * 120 + (a + 2)))) (upd (upd yhi t (nI g)) t (nI (g + 1))) (ylo) (upd yen (t * 7 + g) (ho_a (ho_m xhm (xsk (t * 6 + g)) (nI (re_b M p (2 + 3 * re_b M p (a + 1)))) (nI (re_b M p (2 + 3 * re_b M p (a + 1) + 1))) (nI (re_b M p (2 + 3 * re_b M p (a + 1) + 2)))))) ht (by omega) (lv_c hW (fun l hl => ⟨by first | rfl | (rw [pk_un (by omega)]; done) | (rw [pk_un (by omega), pk_un (by omega)]; done) | (rw [pk_un (by omega), pk_un (by omega), pk_un (by omega)]; done), by first | rfl | (rw [pk_un (by omega)]; done) | (rw [pk_un (by omega), pk_un (by omega)]; done) | (rw [pk_un (by omega), pk_un (by omega), pk_un (by omega)]; done), by first | rfl | (rw [pk_un (by omega)]; done) | (rw [pk_un (by omega), pk_un (by omega)]; done) | (rw [pk_un (by omega), pk_un (by omega), pk_un (by omega)]; done), by first | rfl | (rw [pk_un (by omega)]; done) | (rw [pk_un (by omega), pk_un (by omega)]; done) | (rw [pk_un (by omega), pk_un (by omega), pk_un (by omega)]; done), by first | rfl | (rw [pk_un (by omega)]; done) | (rw [pk_un (by omega), pk_un (by omega)]; done) | (rw [pk_un (by omega), pk_un (by omega), pk_un (by omega)]; done), fun j hj => by first | rfl | (rw [pk_un (by omega)]; done) | (rw [pk_un (by omega), pk_un (by omega)]; done) | (rw [pk_un (by omega), pk_un (by omega), pk_un (by omega)]; done), fun j hj => by first | rfl | (rw [pk_un (by omega)]; done) | (rw [pk_un (by omega), pk_un (by omega)]; done) | (rw [pk_un (by omega), pk_un (by omega), pk_un (by omega)]; done), fun i hi => by first | rfl | (rw [pk_un (by omega)]; done) | (rw [pk_un (by omega), pk_un (by omega)]; done) | (rw [pk_un (by omega), pk_un (by omega), pk_un (by omega)]; done), fun i hi => by first | rfl | (rw [pk_un (by omega)]; done) | (rw [pk_un (by omega), pk_un (by omega)]; done) | (rw [pk_un (by omega), pk_un (by omega), pk_un (by omega)]; done)⟩)) ⟨a1, a2, pk_us, pk_us, pk_us, pk_us, by omega, st_A a8 (by omega) rfl, a9⟩ (by rw [show g + 1 = g + 1 - 1 + 1 by omega]; exact nx2) hqs' pk_us (by omega) hphi)
  rw [hc]
  rw [ev] at K
  exact y_op13 (by omega) (by omega) hx (by omega) hn hF a1 la bad hc rfl a6 a7 (by omega) rfl rfl rfl fun hm e => by subst e; exact K
theorem rn_o16 {t f a hh q st m p x : Nat} {q0 : Nat → Int32} (hV : rn_V M p x n xim xic xih xbp) (ih : rn_H x p q0 M m xrc xbc xfc xrn xra xfi xfp xgn xac xlr xhm xrp xrA xrB xrC xby xhd xst xbg xco xen xre xld xim xic xih xif xop xbp xbq xsc xna xhe xlo xsk yru ypl ynu yps yfi yac yre yme yrp yrq yrl yby yle ypr ywa ybp ybq ybo ysc yfn yat yhi ylo yen) (ht : t < 6) (hst : st + (m + 1) ≤ 2000) (hW : lv_W (re_b M p) p t xna xhe xlo xsk yfn yat yhi ylo yen) (hA : lv_A (re_b M p) p t f a hh xna xhe xlo xsk yfn yat yhi ylo yen) (hR : rr_R (re_b M p) f a hh)
    (hqs : ∀ y, y ≠ x → xbq y = q0 y) (hq : xbq x = nI q) (hq2 : q ≤ 2000) (hcq : pl_C (re_b M p) f a ≤ q) (hphi : q - pl_C (re_b M p) f a + pl_T (re_b M p) f (a + pl_sz (re_b M p a)) ≤ m) (hc : re_b M p a = 16) :
    rn_E x p q0 (m + 1) st xrc xbc xfc xrn xra xfi xfp xgn (nI (t + 1)) 0 xhm xrp xrA xrB xrC xby xhd xst xbg xco xen xre xld xim xic xih xif xop xbp xbq xsc xna xhe xlo xsk yru ypl ynu yps yfi (nI (t + 1)) 0 xhm yrp yrq yrl (fun i => nI (M i)) yle ypr ywa ybp xbq ybo xsc yfn yat yhi ylo yen := by
  have hA' := hA
  obtain ⟨a1, a2, a3, a4, a5, a6, a7, a8, a9⟩ := hA'
  obtain ⟨hp, hx, hv, ⟨hn, hF, hff⟩, him, hbp, hih⟩ := id hV
  have hI := hR.1
  have la := hI.1
  have he := pl_ef hF a1
  have bad := (hff f a1).1 a hI
  have rs := rr_s (hff f a1).2.2 (hff f a1).2.1 hR
  have hxc : xim (p * 120 + a) = nI 16 := by rw [him a (by omega), hc]
  have hqs' : ∀ y, y ≠ x → upd xbq x (nI (q - pl_C (re_b M p) f a)) y = q0 y := fun y hy => by rw [pk_un hy]; exact hqs y hy
  have tk : pl_tk (re_b M p) a = 1 := by simp [pl_tk, hc]
  have gv : pl_gv (re_b M p a) = 0 := by rw [hc]; rfl
  rw [tk, gv] at rs
  have esz : pl_sz (re_b M p a) = 1 := by rw [hc]; rfl
  rw [esz] at rs hphi
  obtain ⟨g, rfl⟩ : ∃ g, hh = g + 1 := ⟨hh - 1, by have := rs.1; omega⟩
  have ev : xsk (t * 6 + g) = yen (t * 7 + g) := a8 g (by omega)
  have hgx : ∀ s, t = s + 1 → ∃ g', xhe s = nI g' ∧ g' < 6 := fun s e => by
    obtain ⟨f', a', h', b1, b2, _⟩ := hW s (by omega)
    exact ⟨h', b1.2.2.2.2.1, b2⟩
  have hgy : ∀ s, t = s + 1 → ∃ g', yhi s = nI g' ∧ g' < 6 := fun s e => by
    obtain ⟨f', a', h', b1, b2, _⟩ := hW s (by omega)
    exact ⟨h', b1.2.2.2.2.2.1, b2⟩
  by_cases t0 : t = 0
  · refine rn_fin (w := 0) (xlr1 := xsk (t * 6 + g)) (yac1 := 0) (fn1 := yfn) (at1 := yat) (hi1 := yhi) (yl1 := ylo) (en1 := yen) hV ht hA hI hq hq2 (by omega) hcq (by decide) (by decide) hqs (fun P K => x_op16 (o := 0) (by omega) hp hx (by omega) hxc a5 (by omega) (fun _ => K) (fun s _ e => absurd e (by omega)) hgx) (fun P K => ?_)
    rw [hc]
    rw [ev] at K
    exact y_op16 (o := 0) (by omega) (by omega) hx (by omega) hn hF a1 la bad hc a6 a7 (fun _ => K) (fun s _ e => absurd e (by omega)) hgy
  obtain ⟨s, rfl⟩ : ∃ s, t = s + 1 := ⟨t - 1, by omega⟩
  obtain ⟨f', a', h', ⟨b1, b2, b3, b4, b5, b6, b7, b8, b9⟩, c1, c2, c3⟩ := hW s (by omega)
  refine rn_next hV ht hA hI hq hq2 (by omega) hcq (fun P K => x_op16 (o := 0) (by omega) hp hx (by omega) hxc a5 (by omega) (fun e => absurd e (by omega)) (fun s' g' e1 e2 e3 => ?_) hgx) (fun P K => ?_) (ih (s) (f') (a') (h' + 1) (q - pl_C (re_b M p) f a) (st + 1) (xhm) (upd xbq x (nI (q - pl_C (re_b M p) f a))) (xsc) (upd xna (s + 1) (nI (p * 120 + (a + 1)))) (upd (upd xhe (s + 1) (nI g)) s (nI (h' + 1))) (xlo) (upd xsk (s * 6 + h') (xsk ((s + 1) * 6 + g))) (yfn) (yat) (upd yhi s (nI (h' + 1))) (ylo) (upd yen (s * 7 + h') (yen ((s + 1) * 7 + g))) (by omega) (by omega) (lv_c (fun l hl => hW l (by omega)) (fun l hl => ⟨by first | rfl | (rw [pk_un (by omega)]; done) | (rw [pk_un (by omega), pk_un (by omega)]; done) | (rw [pk_un (by omega), pk_un (by omega), pk_un (by omega)]; done), by first | rfl | (rw [pk_un (by omega)]; done) | (rw [pk_un (by omega), pk_un (by omega)]; done) | (rw [pk_un (by omega), pk_un (by omega), pk_un (by omega)]; done), by first | rfl | (rw [pk_un (by omega)]; done) | (rw [pk_un (by omega), pk_un (by omega)]; done) | (rw [pk_un (by omega), pk_un (by omega), pk_un (by omega)]; done), by first | rfl | (rw [pk_un (by omega)]; done) | (rw [pk_un (by omega), pk_un (by omega)]; done) | (rw [pk_un (by omega), pk_un (by omega), pk_un (by omega)]; done), by first | rfl | (rw [pk_un (by omega)]; done) | (rw [pk_un (by omega), pk_un (by omega)]; done) | (rw [pk_un (by omega), pk_un (by omega), pk_un (by omega)]; done), fun j hj => by first | rfl | (rw [pk_un (by omega)]; done) | (rw [pk_un (by omega), pk_un (by omega)]; done) | (rw [pk_un (by omega), pk_un (by omega), pk_un (by omega)]; done), fun j hj => by first | rfl | (rw [pk_un (by omega)]; done) | (rw [pk_un (by omega), pk_un (by omega)]; done) | (rw [pk_un (by omega), pk_un (by omega), pk_un (by omega)]; done), fun i hi => by first | rfl | (rw [pk_un (by omega)]; done) | (rw [pk_un (by omega), pk_un (by omega)]; done) | (rw [pk_un (by omega), pk_un (by omega), pk_un (by omega)]; done), fun i hi => by first | rfl | (rw [pk_un (by omega)]; done) | (rw [pk_un (by omega), pk_un (by omega)]; done) | (rw [pk_un (by omega), pk_un (by omega), pk_un (by omega)]; done)⟩)) ⟨b1, b2, by rw [pk_un (by omega)]; exact b3, b4, pk_us, pk_us, by omega, st_A b8 (Nat.le_refl _) ev, b9⟩ c2 hqs' pk_us (by omega) (by rw [pl_T_L c3]; omega))
  · have : s' = s := by omega
    subst this
    have : g' = h' := by rw [b5] at e2; exact ((nI_eq (by omega) (by omega)).mp e2).symm
    subst this
    exact K
  · rw [hc]
    refine y_op16 (o := 0) (by omega) (by omega) hx (by omega) hn hF a1 la bad hc a6 a7 (fun e => absurd e (by omega)) (fun s' g' e1 e2 e3 => ?_) hgy
    have : s' = s := by omega
    subst this
    have : g' = h' := by rw [b6] at e2; exact ((nI_eq (by omega) (by omega)).mp e2).symm
    subst this
    exact K
theorem rn_o12 {t f a hh q st m p x : Nat} {q0 : Nat → Int32} (hV : rn_V M p x n xim xic xih xbp) (ih : rn_H x p q0 M m xrc xbc xfc xrn xra xfi xfp xgn xac xlr xhm xrp xrA xrB xrC xby xhd xst xbg xco xen xre xld xim xic xih xif xop xbp xbq xsc xna xhe xlo xsk yru ypl ynu yps yfi yac yre yme yrp yrq yrl yby yle ypr ywa ybp ybq ybo ysc yfn yat yhi ylo yen) (ht : t < 6) (hst : st + (m + 1) ≤ 2000) (hW : lv_W (re_b M p) p t xna xhe xlo xsk yfn yat yhi ylo yen) (hA : lv_A (re_b M p) p t f a hh xna xhe xlo xsk yfn yat yhi ylo yen) (hR : rr_R (re_b M p) f a hh)
    (hqs : ∀ y, y ≠ x → xbq y = q0 y) (hq : xbq x = nI q) (hq2 : q ≤ 2000) (hcq : pl_C (re_b M p) f a ≤ q) (hphi : q - pl_C (re_b M p) f a + pl_T (re_b M p) f (a + pl_sz (re_b M p a)) ≤ m) (hc : re_b M p a = 12) :
    rn_E x p q0 (m + 1) st xrc xbc xfc xrn xra xfi xfp xgn (nI (t + 1)) 0 xhm xrp xrA xrB xrC xby xhd xst xbg xco xen xre xld xim xic xih xif xop xbp xbq xsc xna xhe xlo xsk yru ypl ynu yps yfi (nI (t + 1)) 0 xhm yrp yrq yrl (fun i => nI (M i)) yle ypr ywa ybp xbq ybo xsc yfn yat yhi ylo yen := by
  have hA' := hA
  obtain ⟨a1, a2, a3, a4, a5, a6, a7, a8, a9⟩ := hA'
  obtain ⟨hp, hx, hv, ⟨hn, hF, hff⟩, him, hbp, hih⟩ := id hV
  have hI := hR.1
  have la := hI.1
  have he := pl_ef hF a1
  have bad := (hff f a1).1 a hI
  have rs := rr_s (hff f a1).2.2 (hff f a1).2.1 hR
  have hxc : xim (p * 120 + a) = nI 12 := by rw [him a (by omega), hc]
  have hqs' : ∀ y, y ≠ x → upd xbq x (nI (q - pl_C (re_b M p) f a)) y = q0 y := fun y hy => by rw [pk_un hy]; exact hqs y hy
  have esz : pl_sz (re_b M p a) = 2 := by rw [hc]; rfl
  rw [esz] at rs hphi
  have hw : a + 1 < pl_e (re_b M p) f := pl_wide bad esz
  have hxo : xim (p * 120 + (a + 1)) = nI (re_b M p (a + 1)) := him _ (by omega)
  have hol : re_b M p (a + 1) < pl_li (re_b M p) f (re_b M p a) := pl_ol bad esz
  obtain ⟨nx1, nx2⟩ := rs.2.2.2 (by omega) (by omega)
  have hof : re_b M p (a + 1) < pl_nf (re_b M p) := pl_call bad hc
  have h4 := hF.2.2.2.1
  have tk : pl_tk (re_b M p) a = re_b M p (pl_hd (re_b M p) (re_b M p (a + 1))) := by simp [pl_tk, hc]
  have gv : pl_gv (re_b M p a) = 1 := by rw [hc]; rfl
  rw [tk, gv] at rs nx2
  have hof1 := pl_hf hF hof
  have hof2 := pl_ef hF hof
  have np2 : re_b M p (pl_hd (re_b M p) (re_b M p (a + 1))) ≤ 2 := (hF.2.2.2.2.1 _ hof).1
  have xnp : xim (p * 120 + pl_hd (re_b M p) (re_b M p (a + 1))) = nI (re_b M p (pl_hd (re_b M p) (re_b M p (a + 1)))) := him _ (by omega)
  have r1 := rs.1
  have r2 := rs.2.1
  generalize eo : re_b M p (a + 1) = o at *
  generalize enp : re_b M p (pl_hd (re_b M p) o) = np at *
  obtain ⟨g, rfl⟩ : ∃ g, hh = g + np := ⟨hh - np, by omega⟩
  have hL : pl_L (re_b M p) f (a + 2) := Or.inr ⟨a, hI, Or.inr (Or.inl ⟨by omega, by omega, rfl⟩)⟩
  have hLs : pl_L (re_b M p) o (pl_s (re_b M p) o) := Or.inl rfl
  by_cases t5 : t = 5
  · refine rn_fin (w := 3) (xlr1 := 0) (yac1 := nI (t + 1)) (fn1 := yfn) (at1 := yat) (hi1 := yhi) (yl1 := ylo) (en1 := yen) hV ht hA hI hq hq2 (by omega) hcq (by decide) (by decide) hqs (fun P K => x_12pre (by omega) hp hx (by omega) hxc hxo (by omega) hbp (hih o hof).1 (by omega) xnp (fun _ => K) fun z => absurd t5 (by omega)) (fun P K => ?_)
    rw [hc]
    exact y_op12 (f := f) (g := g) (by omega) (by omega) (by omega) hn hF eo hof enp np2 a4 a6 a7 (fun _ => K) fun z => absurd t5 (by omega)
  obtain ⟨he', lo', k1, k2, k3, k4⟩ := x_op12 (xrc := xrc) (xbc := xbc) (xfc := xfc) (xrn := xrn) (xra := xra) (xfi := xfi) (xfp := xfp) (xgn := xgn) (xlr := 0) (xhm := xhm) (xrp := xrp) (xrA := xrA) (xrB := xrB) (xrC := xrC) (xby := xby) (xhd := xhd) (xst := xst) (xbg := xbg) (xco := xco) (xen := xen) (xre := xre) (xld := xld) (xic := xic) (xif := xif) (xop := xop) (xbq := upd xbq x (nI (q - pl_C (re_b M p) f a))) (xsc := xsc) (xna := xna) (xlo := xlo) (xsk := xsk) (g := g) (show t < 5 by omega) hp hx (show a + 1 < 120 by omega) hxc hxo (show o < 4 by omega) hbp (hih o hof).1 (show pl_hd (re_b M p) o < 120 by omega) xnp np2 a5 a7
  have k5 := ca_cp (t := t) (v := fun i => yen (t * 7 + (g + i))) (lo := ylo) (show np ≤ 5 by omega)
  refine rn_next hV ht hA hI hq hq2 (by omega) hcq (fun P K => k4 P K) (fun P K => ?_) (ih (t + 1) (o) (pl_s (re_b M p) o) (0) (q - pl_C (re_b M p) f a) (st + 1) (xhm) (upd xbq x (nI (q - pl_C (re_b M p) f a))) (xsc) (upd (upd xna t (nI (p * 120 + (a + 2)))) (t + 1) (nI (p * 120 + pl_hd (re_b M p) o + 3))) (upd he' (t + 1) 0) (lo') (xsk) (upd yfn (t + 1) (nI o)) (upd (upd yat t (nI (p * 120 + (a + 2)))) (t + 1) (nI (p * 120 + pl_s (re_b M p) o))) (upd (upd yhi t (nI g)) (t + 1) 0) (cp_f (zz_f ylo ((t + 1) * 5) 5) ((t + 1) * 5) (fun i => yen (t * 7 + (g + i))) np) (yen) (by omega) (by omega) (fun l hl => ?_) ⟨hof, pk_us, by rw [pk_us]; exact congrArg nI (by unfold pl_s; omega), pk_us, pk_us, pk_us, by omega, fun j hj => absurd hj (by omega), fun i hi => ?_⟩ (rr_0 hF hof) hqs' pk_us (by omega) (by rw [pl_T_L hLs]; omega))
  · rw [hc]
    exact y_op12 (f := f) (g := g) (by omega) (by omega) (by omega) hn hF eo hof enp np2 a4 a6 a7 (fun z => absurd z t5) fun _ => K
  · by_cases el : l = t
    · subst el
      refine ⟨f, a + 2, g, ⟨a1, by rw [pk_un (by omega)]; exact a2, by rw [pk_un (by omega), pk_us], by rw [pk_un (by omega), pk_us], by rw [pk_un (by omega)]; exact k1, by rw [pk_un (by omega), pk_us], by omega, fun j hj => a8 j (by omega), fun i hi => ?_⟩, by omega, ?_, hL⟩
      · rw [k3.1 l (Nat.le_refl _) i hi, k5.1 l (Nat.le_refl _) i hi]; exact a9 i hi
      · rw [show g + 1 = g + np - np + 1 by omega]; exact nx2
    · obtain ⟨f', a', h', ⟨b1, b2, b3, b4, b5, b6, b7, b8, b9⟩, c1, c2, c3⟩ := hW l (by omega)
      refine ⟨f', a', h', ⟨b1, by rw [pk_un (by omega)]; exact b2, by rw [pk_un (by omega), pk_un (by omega)]; exact b3, by rw [pk_un (by omega), pk_un (by omega)]; exact b4, by rw [pk_un (by omega), k2 l (by omega)]; exact b5, by rw [pk_un (by omega), pk_un (by omega)]; exact b6, b7, b8, fun i hi => ?_⟩, c1, c2, c3⟩
      rw [k3.1 l (by omega) i hi, k5.1 l (by omega) i hi]; exact b9 i hi
  · by_cases ei : i < np
    · rw [k3.2.1 i ei, k5.2.1 i ei]
      exact a8 (g + i) (by omega)
    · rw [k3.2.2 i (by omega) hi, k5.2.2 i (by omega) hi]
end D8
