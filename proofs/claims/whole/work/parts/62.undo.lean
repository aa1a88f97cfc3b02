/-! UNDONE: class and reference -/
def popH (hs : List ST) : List ST := hs.take (hs.length - 1)
theorem popH_at {hs : List ST} {j : Nat} {q : ST} (h : (popH hs)[j]? = some q) : hs[j]? = some q ∧ j + 1 < hs.length := by
  unfold popH at h
  have hl := getE_lt h
  rw [List.length_take] at hl
  rw [List.getElem?_take_of_lt (by omega)] at h
  exact ⟨h, by omega⟩
theorem popH_len (hs : List ST) : (popH hs).length = hs.length - 1 := by unfold popH; rw [List.length_take]; omega
section UNDO
variable {d : Nat} {g : qG} {I : qI} {J : qJ} {Q : qQ} {p M n m x a b nx fs : Nat} {s : ST} {hs : List ST}
theorem k_restore (hg : gOk g) (hH : kH g I nx hs) (hbs : ∀ q, q ∈ hs → bdST q) (k0 : hs = [] → Q (some (.int (-1))) g I J) (k : ∀ s, hs.getLast? = some s → ∀ I' nx', kSt I' 89 s → kH g I' nx' (popH hs) → (∀ q, q ≠ 101 → (q < 89 ∨ 92 < q) → I' q = I q) → Q (some (.int (nI (hs.length - 1)))) g I' J) : qC (d + 1) 40 [.ref 101, .ref 89] g I J Q := by
  obtain ⟨h1, hnx, h2, hl, hent⟩ := hH
  obtain ⟨hsh, h120, hst, hdi⟩ := hg
  have s89 : qSta g 89 := hsh.sta rfl (by omega)
  have ep : qrem (I 101 1 + nI 40 - nI 1) (nI 40) = nI ((nx + 39) % 40) := by rw [h1, nI_add, pk_sub (by omega), rem40 (by omega), show nx + 40 - 1 = nx + 39 by omega]
  refine w40 hsh s89 ⟨fun h3 => ?_, fun h3 => ?_⟩
  · rw [h2, ← nI_0, nI_eq (by omega) (by omega)] at h3
    exact k0 (List.length_eq_zero_iff.mp h3)
  · rw [h2, ← nI_0, nI_eq (by omega) (by omega)] at h3
    obtain ⟨s, hls⟩ : ∃ s, hs[hs.length - 1]? = some s := ⟨hs[hs.length - 1], List.getElem?_eq_getElem (by omega)⟩
    obtain ⟨b, b1, b2⟩ := hent _ s hls
    rw [show (nx + 40 - hs.length + (hs.length - 1)) % 40 = (nx + 39) % 40 by omega] at b1
    have hb := hst _ b (by omega) b1
    rw [ep]
    refine ⟨(nx + 39) % 40, rfl, by omega, fun h4 => absurd (h4.symm.trans b1) (by simp), fun c hc => ?_⟩
    have ec : c = b := Option.some.inj (hc.symm.trans b1)
    subst ec
    refine ⟨hb.2.2, (nx + 39) % 40, rfl, by omega, c, b1, hb.2.2, ?_⟩
    have hbd := hbs s (List.mem_of_getElem? hls)
    refine k_copySt s89 hb.2.2 (by omega) b2 hbd.1 hbd.2 (fun I1 c1 c2 => ⟨rfl, ?_⟩)
    have e2 : ∀ v, qw I1 101 1 v 101 2 = nI hs.length := fun v => by rw [zu_k (by omega), c2 101 (by omega)]; exact h2
    rw [e2, pk_sub (by omega), zu_s]
    refine k s (by rw [List.getLast?_eq_getElem?]; exact hls) _ ((nx + 39) % 40) (c1.keep (fun q h5 h6 => by rw [zu_a (by omega), zu_a (by omega)])) ⟨by rw [zu_k (by omega), zu_s], by omega, by rw [zu_s, popH_len], by rw [popH_len]; omega, fun j q hj => ?_⟩ (fun q h5 h6 => by rw [zu_a h5, zu_a h5, c2 q (by omega)])
    obtain ⟨g1, g2⟩ := popH_at hj
    obtain ⟨b', d1, d2⟩ := hent j q g1
    have hb' := hst _ b' (by omega) d1
    refine ⟨b', ?_, d2.keep (fun t h5 h6 => by rw [zu_a (by omega), zu_a (by omega), c2 t (by omega)])⟩
    rw [popH_len, show ((nx + 39) % 40 + 40 - (hs.length - 1) + j) % 40 = (nx + 40 - hs.length + j) % 40 by omega]
    exact d1
theorem r_undo (hsh : qSh g) (hH : rH I fs hs) (hbs : ∀ q, q ∈ hs → bdST q) (k0 : hs = [] → ∀ I', (∀ b, b ≠ 105 → I' b = I b) → (∀ k, k ≠ 0 → I' 105 k = I 105 k) → Q (some (.int (-1))) g I' J) (k : ∀ s, hs.getLast? = some s → ∀ I', rSt I' 111 0 s → rH I' fs (popH hs) → (∀ b, b ≠ 105 → b ≠ 111 → I' b = I b) → (∀ k, k ≠ 0 → k ≠ 22 → I' 105 k = I 105 k) → Q (some (.int (nI (hs.length - 1)))) g I' J) : qC (d + 1) 240 [.ref 105] g I J Q := by
  obtain ⟨h21, hfs, h22, hl, hent⟩ := hH
  have k111 : g.1 111 = some (100, 381) := hsh.k rfl
  have k114 : g.1 114 = some (100, 15240) := hsh.k rfl
  refine w240 hsh ⟨fun h3 => ?_, fun h3 => ?_⟩
  · rw [zu_k (by omega), h22, ← nI_0, nI_eq (by omega) (by omega)] at h3
    exact k0 (List.length_eq_zero_iff.mp h3) _ (fun b hb => zu_a hb) (fun k hk => zu_k hk)
  · rw [zu_k (by omega), h22, ← nI_0, nI_eq (by omega) (by omega)] at h3
    obtain ⟨s, hls⟩ : ∃ s, hs[hs.length - 1]? = some s := ⟨hs[hs.length - 1], List.getElem?_eq_getElem (by omega)⟩
    have hq := hent _ s hls
    have hbd := hbs s (List.mem_of_getElem? hls)
    have e22 : (qw I 105 0 (nI 0)) 105 22 = nI hs.length := by rw [zu_k (by omega)]; exact h22
    rw [e22, pk_sub (by omega)]
    generalize hI0 : qw (qw I 105 0 (nI 0)) 105 22 (nI (hs.length - 1)) = I0
    have e22' : I0 105 22 = nI (hs.length - 1) := by rw [← hI0]; exact zu_s
    have e21' : I0 105 21 = nI fs := by rw [← hI0, zu_k (by omega), zu_k (by omega)]; exact h21
    have fo : ∀ b, b ≠ 105 → I0 b = I b := fun b hb => by rw [← hI0, zu_a hb, zu_a hb]
    have ff : ∀ k, k ≠ 0 → k ≠ 22 → I0 105 k = I 105 k := fun k h5 h6 => by rw [← hI0, zu_k h6, zu_k h5]
    rw [e22', e21', nI_add, rem40 (by omega), pk_mul]
    refine r_cpRow k114 k111 (by omega) (by omega) (by omega) rfl rfl (fun I1 c1 c2 c3 => ⟨rfl, ?_⟩)
    rw [c1 105 (by omega), e22']
    refine k s (by rw [List.getLast?_eq_getElem?]; exact hls) I1 (hq.move hbd (fun j hj => by rw [c2 j hj, fo 114 (by omega)])) ⟨by rw [c1 105 (by omega)]; exact e21', hfs, by rw [c1 105 (by omega), e22', popH_len], by rw [popH_len]; omega, fun j q hj => ?_⟩ (fun b h5 h6 => by rw [c1 b h6, fo b h5]) (fun k h5 h6 => by rw [c1 105 (by omega)]; exact ff k h5 h6)
    exact (hent j q (popH_at hj).1).keep (by rw [c1 114 (by omega), fo 114 (by omega)])
end UNDO
