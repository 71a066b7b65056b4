theorem rsK_loop (X : RV) (s : Nat) {k : Nat} (hk : k = 5 ∨ k = 6) : rsK X s (lN (kwN k)) = opB (tI X 19 s (nI k)) 26 s 4 := by
  rcases hk with hk | hk <;> subst hk
  · have e : lN (kwN 5) = 512852847717 := by decide +kernel
    rw [e]; rfl
  · have e : lN (kwN 6) = 1819242352 := by decide +kernel
    rw [e]; rfl
theorem b2i_sI (b : Bool) : b2i b = 0 ∨ b2i b = 1 := by cases b <;> simp [b2i]
theorem sc_56 {D k : Nat} (hk : k = 5 ∨ k = 6) (HB : BLC D) : SC D k := by
  intro d h h3 Q T U e0 l il so sc r R nk par wk pk nm fW fS ks B B0 G hd A hr hD D0 d1 hl CH hsc K hs hn E3 L3 hU X3 t9 ⟨htp, ntg⟩ F3 cr hB0 DP H
  obtain ⟨d, rfl⟩ : ∃ j, d = j + 10 := ⟨d - 10, by omega⟩
  have d0 : 0 < dN r := by omega
  have c9 := E3.1.2.2.2.2.2.2.2.2.1
  obtain ⟨tk, k10⟩ := srt_kw hs (by omega)
  obtain ⟨p, g1, g2, g3⟩ := E3.pl
  have pq : gi r 1449 = nI p := by rw [← (E3.2.2.2.2 hr.1).1.2.1]; exact g1
  have cg := cr_ge A cr hB0
  obtain ⟨B, rfl⟩ : ∃ b, B = b + 1 := ⟨B - 1, by omega⟩
  obtain ⟨st, ne, n120⟩ := stp_kw A d0 d1 hs (by omega) hn
  rw [rsK_loop _ _ hk] at st
  obtain ⟨M1, ho⟩ := MD_rsA (MD.start A hr.1) d0 n120
  have M2 := M1.adv (by rw [gi_rsA]; exact ne)
  have M3 : MD r (dN r) (0 + 1) (rsN r + 1) (tI (advF (rsA r)) 19 (rsN r) (nI k)) := MDtI M2 _ _ (by decide)
  have te : TE (advF r) (tI (advF (rsA r)) 19 (rsN r) (nI k)) := (TE_rsA.adv).tr (TE_tI (by decide))
  have er : gi (advF r) 1452 = -1 := by rw [gi_adv]; exact hr.1
  have nv := new_vals A
  have x19 : ai (tI (advF (rsA r)) 19 (rsN r) (nI k)) 19 (rsN r) = nI k := by rw [ai_tI, if_pos ⟨rfl, rfl⟩]
  have xq : ∀ q, ¬ q = 19 → ai (tI (advF (rsA r)) 19 (rsN r) (nI k)) q = ai (rsA r) q := fun q hq => by rw [ai_ne hq, ai_adv]
  have ow : OWN (tI (advF (rsA r)) 19 (rsN r) (nI k)) 4 (nI (rsN r)) := own_of M3 (by decide) (by rw [xq 32 (by decide), (nv 32).2.2 (by omega)]; exact ⟨rfl, by decide⟩) (fun z => absurd z (by decide)) (xq 41 (by decide)) (xq 46 (by decide)) ho
  have q1 : qN r + 1 ≤ qN (tI (advF (rsA r)) 19 (rsN r) (nI k)) := M3.2.2.2.2.2.2.2.2
  rw [if_neg (by omega), bk_X5_takeStatement_47]
  refine ⟨c9, p_take E3 (by omega) (fun h4 E4 w4 => ?_)⟩
  rw [decide_eq_true tk, gT_t hr.1] at E4
  simp only [psh]
  refine st_sw (by omega) ?_
  have e : (if k = 0 then 80 else swAt [68, 68, 68, 52, 57, 57, 72, 80, 63, 76] (k - 1) 80) = 57 := by
    rcases hk with hk | hk <;> subst hk <;> rfl
  rw [e]
  have L4 := L3.pw w4
  have t94 : tg h4 (tp h) = 9 := by rw [w4.1.tg htp]; exact t9
  have htp4 : tp h < tp h4 := by rw [w4.2.1]; exact htp
  have F4 := F3.fx w4.1 htp (fun f hf => EPW_no (by omega))
  have X4 : FX (ENX T U e0 (tp h)) h h4 := (X3.mono (fun _ _ z => Or.inr z)).tr (w4.1.mono (fun _ _ z => Or.inl z))
  have CH4 : CHN h4 U sc so := CHN.ep CH (w4.ep (e0 := e0) (sc := sc))
  have K4 : KD h4 (U + 1) nk par wk pk := K.ep (w4.ep (e0 := e0) (sc := sc)) (by have := E3.1.2.1; omega) L3.e0 (fun a m => (hsc a m).2)
  have c94 := E4.1.2.2.2.2.2.2.2.2.1
  have ps4 := E4.2.2.1
  have il4 := ps4.2.2.2.1
  -- the loop's mark
  have xs : FX (fun g y => y = U + 9 ∧ (g = 703 ∨ g = 704 ∨ g = 10705 ∨ g = 30706)) h4 (setFI h4 10705 (U + 9) 1) := FX.FI ⟨rfl, by omega⟩
  have E5 : ES (setFI h4 10705 (U + 9) 1) T U e0 1 (advF r) D l true so := E4.ps xs ⟨by rw [fI_setFI, if_neg (by omega)]; exact ps4.2.1, by rw [fI_setFI, if_neg (by omega)]; exact ps4.2.2.1, fFI_same _ _ _ _, ps4.2.2.2.2⟩
  have L5 : LST (setFI h4 10705 (U + 9) 1) U e0 nm fW (nsC r + 1) (up1 fS (nsC r) (tp h)) ks (B + 1) := LST.ps L4 xs rfl rfl
  have xa : FX (EPa T U e0 sc) h4 (setFI h4 10705 (U + 9) 1) := xs.mono (fun g y z => Or.inr (Or.inr (Or.inr ⟨z.1, by omega⟩)))
  have F5 := F4.fx xs htp4 (fun f hf z => by omega)
  have X5 : FX (EPn T U e0 (tp h) sc) h (setFI h4 10705 (U + 9) 1) := (ENX_en X4).tr (EPa_en xa)
  have CH5 := CHN.ep CH4 xa
  have K5 : KD (setFI h4 10705 (U + 9) 1) (U + 1) nk par wk pk := K4.ep xa (by have := E3.1.2.1; omega) L3.e0 (fun a m => (hsc a m).2)
  have t95 : tg (setFI h4 10705 (U + 9) 1) (tp h) = 9 := t94
  have htp5 : tp h < tp (setFI h4 10705 (U + 9) 1) := htp4
  have c95 : tg (setFI h4 10705 (U + 9) 1) (U + 9) = 8 := c94
  have s5 : ∀ a, a < tp h → fI (setFI h4 10705 (U + 9) 1) 10304 a = fI h 10304 a := fun a ha => by
    rw [fI_setFI, if_neg (by omega)]
    exact X4.fI (by omega) (ENX_set (by omega))
  have sf5 : ENR r R → ∀ c, c ∈ cch R (rsB r) → SCF (setFI h4 10705 (U + 9) 1) R G c := fun EN c m => by
    have P := DP EN
    have hm : G 2 c ∈ sc := by rw [P.2.2.2.1]; exact List.mem_map.mpr ⟨c, m, rfl⟩
    have hm2 := hsc _ hm
    have h33 := X3.1
    have S := (P.2.2.2.2.1 c m).1.pw w4 (by omega)
    obtain ⟨y1, y2, y3, y4, y5⟩ := S
    exact ⟨y1, y2, by rw [fI_setFI, if_neg (by omega)]; exact y3, by rw [fI_setFI, if_neg (by omega)]; exact y4, y5⟩
  rw [bk_X5_takeStatement_57]
  refine ⟨c94, ?_⟩
  rw [bk_X5_takeLoop_0, il4]
  refine ⟨c94, c94, Or.inr rfl, c95, ?_⟩
  generalize setFI h4 10705 (U + 9) 1 = h5 at *
  -- behind the block
  have back : ∀ (h' : AH) a ks' B' ns' fS', ES h' T U e0 1 a D l true so → LST h' U e0 nm fW ns' fS' ks' B' → tg h' (U + 9) = 8 ∧ ES (setFI h' 10705 (U + 9) (b2i il)) T U e0 1 a D l il so ∧ LST (setFI h' 10705 (U + 9) (b2i il)) U e0 nm fW ns' fS' ks' B' ∧ FX (fun g y => y = U + 9 ∧ (g = 703 ∨ g = 704 ∨ g = 10705 ∨ g = 30706)) h' (setFI h' 10705 (U + 9) (b2i il)) := fun h' a ks' B' ns' fS' E' L' => by
    have xs : FX (fun g y => y = U + 9 ∧ (g = 703 ∨ g = 704 ∨ g = 10705 ∨ g = 30706)) h' (setFI h' 10705 (U + 9) (b2i il)) := FX.FI ⟨rfl, by omega⟩
    have ps := E'.2.2.1
    exact ⟨E'.1.2.2.2.2.2.2.2.2.1, E'.ps xs ⟨by rw [fI_setFI, if_neg (by omega)]; exact ps.2.1, by rw [fI_setFI, if_neg (by omega)]; exact ps.2.2.1, fFI_same _ _ _ _, ps.2.2.2.2⟩, LST.ps L' xs rfl rfl, xs⟩
  have E6 := E5.te (TEW.of te (by rw [M3.2.1]; exact er.symm))
  refine st_block (R := R) (h := h) (h3 := h3) (G := G) (wk := wk) (l := l) (il := il) (fS := fS) (what := 4) HB (by omega) A hr hD D0 d1 (by omega) M3 ow (by decide) (by decide) st E6 CH5 K5 L5 (by omega) hB0 (by rw [if_neg (by decide), Nat.zero_add]) (by rw [if_neg (by decide), if_pos rfl]) DP sf5 ?_ ?_
  · intro h' rc x ks' B' ns' fS' n OD g Ac ec c125 dc Ec Xc Lc ens fk crc tx BP
    obtain ⟨k1, k2, k3, k4⟩ := back h' _ ks' B' ns' fS' Ec Lc
    simp only [psh]
    rw [bk_X5_takeLoop_8]
    refine ⟨k1, b2i_sI il, ?_⟩
    simp only [psh, bk_X5_takeStatement_60, nn_some]
    exact sc_blk (k := k) (by omega) (by rcases hk with hk | hk <;> subst hk <;> rfl) A hr hD D0 d1 hsc hU X5 s5 t95 htp5 F5 ⟨p, pq, by omega, by omega⟩ OD x19 (fun q hq => by rw [xq q (by omega)]) g Ac ec c125 dc k2 Xc k4 rfl k3 ens fk crc tx (fun EN => by
      obtain ⟨-, y1, -, y3, y4, y2, -⟩ := DP EN
      exact ⟨y1, y2, y3, fun c m => (y4 c m).2⟩) BP H
  · intro h' rw x ks' B' ns' fS' n gk bad Ew Xw Lw fk crw tx
    obtain ⟨k1, k2, k3, k4⟩ := back h' _ ks' B' ns' fS' Ew Lw
    have t9' : tg h' (tp h) = 9 := by rw [Xw.tg htp5]; exact t95
    have htp' : tp h5 ≤ tp h' := Xw.1
    simp only [psh]
    rw [bk_X5_takeLoop_8]
    refine ⟨k1, b2i_sI il, ?_⟩
    simp only [psh, bk_X5_takeStatement_60, nn_some]
    refine ⟨t9', ?_⟩
    refine H _ rw ks' B' ns' fS' n gk (k2.fp (some x) hU (by decide)) (EPn_end (((X5.tr (EPa_en Xw)).tr (k4.mono (fun g y z => Or.inl (Or.inr (Or.inr (Or.inr ⟨z.1, by omega⟩)))))).toFP _ (Or.inr ⟨Nat.le_refl _, by decide⟩))) (LST.fp k3 (some x) hU (by decide)) fk (fun z => absurd z bad) (fun _ => by omega) ⟨t9', by show tp h < tp h'; omega⟩ (fun EN => absurd ((EN.step hr).go (goK_N gk)).right bad)
