/-! values, worlds -/
abbrev Sg : Type := Nat → Nat → Int
abbrev VV : Type := Nat × Int
abbrev MX : Type := va_G × (Nat → Nat) × (Nat → ClassId)
abbrev Mth : Type := MethodName × ByteArray × Nat × Option FieldType × Option (Nat × (Nat → Int))
def cv (ad : Nat → Nat) (v : VV) : Value := match v.1 with
  | 0 => .int (i32 v.2)
  | 1 => .long (i64 v.2)
  | _ => .ref (ad v.2.toNat)
def okv (v : VV) : Prop := match v.1 with
  | 0 => ok32 v.2
  | 1 => ok64 v.2
  | _ => True
def okt (t : Nat) (x : Int) : Prop := match t with
  | 0 => ok32 x
  | 1 => ok64 x
  | _ => True
def fvl (g : Nat → Int) (c ci k : Nat) : VV := match fty ci k with
  | 0 => (0, g k)
  | 1 => (1, g k)
  | _ => (2, (rf c k : Nat))
/-- the type of slot k of cell c -/
def sty (c k : Nat) : Nat := match (shp c).1 with
  | 0 => fty (shp c).2 k
  | 1 => 0
  | 2 => 1
  | 3 => 0
  | _ => 2
def sgok (σ : Sg) : Prop := ∀ c k, okt (sty c k) (σ c k)
def up (σ : Sg) (c k : Nat) (v : Int) : Sg := fun c' => if c' = c then (fun k' => if k' = k then v else σ c k') else σ c'
theorem up_c (σ : Sg) (c k : Nat) (v : Int) : up σ c k v c = fun k' => if k' = k then v else σ c k' := by simp [up]
theorem up_ne (σ : Sg) {c c' : Nat} (k : Nat) (v : Int) (h : c' ≠ c) : up σ c k v c' = σ c' := by simp [up, h]
theorem sgok_up {σ : Sg} (h : sgok σ) {c k : Nat} {v : Int} (hv : okt (sty c k) v) : sgok (up σ c k v) := by
  intro c' k'
  by_cases e : c' = c
  · subst e
    rw [up_c]
    by_cases e2 : k' = k
    · subst e2; simpa using hv
    · simpa [e2] using h c' k'
  · rw [up_ne σ k v e]; exact h c' k'
def ent (X : MX) (g : Nat → Int) (c : Nat) : va_E := match (shp c).1 with
  | 0 => .inr ((shp c).2, (List.range (nfs (shp c).2)).map (fun k => cv X.2.1 (fvl g c (shp c).2 k)))
  | 1 => .inl (X.2.2 0, (shp c).2, .inl (fun j => i32 (g j)))
  | 2 => .inl (X.2.2 1, (shp c).2, .inr (.inl (fun j => i64 (g j))))
  | 3 => .inl (X.2.2 2, (shp c).2, .inl (fun j => i32 (g j)))
  | 4 => .inl (X.2.2 3, (shp c).2, .inr (.inr (.inr (.inr (fun j => if j < (shp c).2 then some (X.2.1 (rf c j)) else none)))))
  | _ => .inl (X.2.2 4, (shp c).2, .inr (.inr (.inr (.inr (fun j => if j < (shp c).2 then some (X.2.1 (rf c j)) else none)))))
def wd (X : MX) (σ : Sg) : va_W := (List.range NC).map (fun c => (X.2.1 c, ent X (σ c) c))
theorem wd_at (X : MX) (σ : Sg) {c : Nat} (h : c < NC) : (wd X σ)[c]? = some (X.2.1 c, ent X (σ c) c) := by
  simp [wd, List.getElem?_map, List.getElem?_range h]
theorem wd_len (X : MX) (σ : Sg) : (wd X σ).length = NC := by simp [wd]
theorem wd_set (X : MX) (σ : Sg) {c k : Nat} {v : Int} {e : va_E} (h : c < NC) (he : ent X (fun k' => if k' = k then v else σ c k') c = e) : (wd X σ).set c (X.2.1 c, e) = wd X (up σ c k v) := by
  apply List.ext_getElem?
  intro i
  by_cases hi : i < NC
  · rw [wd_at X _ hi, List.getElem?_set]
    by_cases e2 : c = i
    · subst e2
      rw [if_pos rfl, if_pos (by rw [wd_len]; exact h), up_c, he]
    · rw [if_neg e2, wd_at X σ hi, up_ne σ k v (fun q => e2 q.symm)]
  · rw [List.getElem?_eq_none (by rw [List.length_set, wd_len]; omega), List.getElem?_eq_none (by rw [wd_len]; omega)]
def tyA (X : MX) : List (ClassId × FieldType) := [(X.2.2 0, .int), (X.2.2 1, .long), (X.2.2 2, .boolean), (X.2.2 3, .array .int), (X.2.2 4, .array .boolean)]
/-- the world -/
def WD (X : MX) (A : Nat → Prop) (σ : Sg) (U : State) (H : Heap) : Prop := va_P X.1 vwCl (wd X σ) H ∧ va_K X.1 vwCl (tyA X) U ∧ va_D A (wd X σ) ∧ sgok σ
def AX (X : MX) : Nat → Prop := fun q => ∃ c, c < NC ∧ q = X.2.1 c
theorem wd_D (X : MX) {A : Nat → Prop} {σ : Sg} (h : va_D A (wd X σ)) (σ' : Sg) : va_D A (wd X σ') := by
  have hp : ∀ (i : Nat) (p : Nat × va_E), (wd X σ')[i]? = some p → i < NC ∧ p.1 = X.2.1 i := by
    intro i p hi
    have hlt : i < NC := by
      have := (List.getElem?_eq_some_iff.mp hi).1
      rwa [wd_len] at this
    rw [wd_at X σ' hlt] at hi
    exact ⟨hlt, by rw [← Option.some.inj hi]⟩
  refine ⟨fun i j p q hi hj hpq => ?_, fun k q hk => ?_⟩
  · obtain ⟨h1, h2⟩ := hp i p hi
    obtain ⟨h3, h4⟩ := hp j q hj
    exact h.1 i j _ _ (wd_at X σ h1) (wd_at X σ h3) (by show X.2.1 i = X.2.1 j; rw [← h2, ← h4, hpq])
  · obtain ⟨h1, h2⟩ := hp k q hk
    rw [h2]
    exact h.2 k _ (wd_at X σ h1)
theorem wd_AX {X : MX} {A : Nat → Prop} {σ : Sg} (h : va_D A (wd X σ)) : ∀ q, AX X q → A q := by
  rintro q ⟨c, hc, rfl⟩
  exact h.2 c _ (wd_at X σ hc)
theorem wd_self {X : MX} {A : Nat → Prop} {σ : Sg} (h : va_D A (wd X σ)) : va_D (AX X) (wd X σ) := by
  refine ⟨h.1, fun k q hk => ?_⟩
  have hlt : k < NC := by
    have := (List.getElem?_eq_some_iff.mp hk).1
    rwa [wd_len] at this
  rw [wd_at X σ hlt] at hk
  rw [← Option.some.inj hk]
  exact ⟨k, hlt, rfl⟩
theorem cv_cat (ad : Nat → Nat) (v : VV) : (cv ad v).category = if v.1 = 1 then 2 else 1 := by
  obtain ⟨t, x⟩ := v
  match t with
  | 0 => rfl
  | 1 => rfl
  | t + 2 => rfl
/-- the tables' words that hold at every call -/
def gW : Cond → Bool
  | .fieldLinkNest .. => true
  | .methodLinkNest .. => true
  | w => goodWord w
def tbG : List Cond := lw_tbl.filter gW
theorem tbG_of {w : Cond} (h : w ∈ lw_tbl) (hg : gW w = true) : w ∈ tbG := List.mem_filter.mpr ⟨h, hg⟩
theorem tbG_lw {w : Cond} (h : w ∈ tbG) : w ∈ lw_tbl := (List.mem_filter.mp h).1
theorem gW_keep {args a' : Array Value} {s U : State} (hW : s.WarmedH U.vm) {w : Cond} (hg : gW w = true) (h : w.before args s = true) : w.before a' U = true := by
  by_cases hn : goodWord w = true
  · exact word_at hW (good_of_word hn) h
  · cases w with
    | fieldLinkNest a i b n d host =>
      have h1 : va_Nw (.fieldLinkNest a i b n d host) s := h
      exact va_Nw.warmF hW h1
    | methodLinkNest a i x host =>
      have h1 : va_Nw (.methodLinkNest a i x host) s := h
      exact va_Nw.warmM hW h1
    | _ => exact absurd hg hn
