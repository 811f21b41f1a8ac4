def TAll (Rel : List Tx → St → St → Prop) : Prop := (∀ (ts : List Tx) (uC uM : St) (a0 : Int32) (a1 : Int32) (a2 : Int32) (a3 : Int32), Rel ts uC uM → ∃ (r : Int32) (uC' : St) (uM' : St), fX11_way uC a0 a1 a2 a3 = some (r, uC') ∧ fX12_way uM a0 a1 a2 a3 = some (r, uM') ∧ Rel ts uC' uM') ∧ (∀ (ts : List Tx) (uC uM : St) (a0 : Int32), Rel ts uC uM → ∃ (r : Int32) (uC' : St) (uM' : St), fX11_soil uC a0 = some (r, uC') ∧ fX12_soil uM a0 = some (r, uM') ∧ Rel ts uC' uM') ∧ (∀ (ts : List Tx) (uC uM : St) (a0 : Int32) (a1 : Int32) (a2 : Int32) (a3 : Int32) (a4 : Int32), Rel ts uC uM → ∃ (r : Int32) (uC' : St) (uM' : St), fX11_paper uC a0 a1 a2 a3 a4 = some (r, uC') ∧ fX12_paper uM a0 a1 a2 a3 a4 = some (r, uM') ∧ Rel ts uC' uM') ∧ (∀ (ts : List Tx) (uC uM : St) (a0 : Int32) (a1 : Int32), Rel ts uC uM → ∃ (r : Int32), fX11_paperTold uC a0 a1 = some r ∧ fX12_paperTold uM a0 a1 = some r ∧ Rel ts uC uM) ∧ (∀ (ts : List Tx) (uC uM : St) (a0 : Int32) (a1 : Int32) (a2 : Int32), Rel ts uC uM → ∃ (r : Int32), fX11_allows uC a0 a1 a2 = some r ∧ fX12_allows uM a0 a1 a2 = some r ∧ Rel ts uC uM) ∧ (∀ (ts : List Tx) (uC uM : St) (a0 : Int32) (a1 : Int32), Rel ts uC uM → ∃ (r : Int32) (uC' : St) (uM' : St), fX11_forge uC a0 a1 = some (r, uC') ∧ fX12_forge uM a0 a1 = some (r, uM') ∧ Rel ts uC' uM') ∧ (∀ (ts : List Tx) (uC uM : St) (a0 : Int32), Rel ts uC uM → ∃ (r : Int32), fX11_fall uC a0 = some r ∧ fX12_fall uM a0 = some r ∧ Rel ts uC uM) ∧ (∀ (ts : List Tx) (uC uM : St) , Rel ts uC uM → ∃ (r : Int64) (uC' : St) (uM' : St), fX11_histories uC = some (r, uC') ∧ fX12_histories uM = some (r, uM') ∧ Rel ts uC' uM') ∧ (∀ (ts : List Tx) (uC uM : St) (a0 : Int32) (a1 : Int32), Rel ts uC uM → ∃ (r : Int64) (uC' : St) (uM' : St), fX11_at uC a0 a1 = some (r, uC') ∧ fX12_at uM a0 a1 = some (r, uM') ∧ Rel ts uC' uM') ∧ (∀ (ts : List Tx) (uC uM : St) (a0 : Int32) (a1 : Int32) (a2 : Int32) (a3 : Int32), Rel ts uC uM → ∃ (r : Int64) (uC' : St) (uM' : St), fX11_both uC a0 a1 a2 a3 = some (r, uC') ∧ fX12_both uM a0 a1 a2 a3 = some (r, uM') ∧ Rel ts uC' uM') ∧ (∀ (ts : List Tx) (uC uM : St) (a0 : Int32) (a1 : Int32), Rel ts uC uM → ∃ (r : Int32) (uC' : St) (uM' : St), fX11_history uC a0 a1 = some (r, uC') ∧ fX12_history uM a0 a1 = some (r, uM') ∧ Rel ts uC' uM') ∧ (∀ (ts : List Tx) (uC uM : St) (a0 : Int32) (a1 : Int64), Rel ts uC uM → ∃ (r : Int32) (uC' : St) (uM' : St), fX11_feed uC a0 a1 = some (r, uC') ∧ fX12_feed uM a0 a1 = some (r, uM') ∧ Rel ts uC' uM') ∧ (∀ (ts : List Tx) (uC uM : St), Rel ts uC uM → (gZ uC 61 = nI ts.length ∧ ts.length ≤ 6 ∧ (¬ gZ uC 61 = 6 → ∃ (f : Int32) (u1 : St), fX5_readText uC = some (f, u1) ∧ gZ u1 61 = gZ uC 61 ∧ (f = -1 → ∃ N : Nat, gZ u1 104 = nI N ∧ N < 160))) ∧ ∀ (r : Int32) (ts' : List Tx) (uC' : St), TextR ts uC r ts' uC' → ∃ uM' : St, fX12_text uM = some (r, uM') ∧ Rel ts' uC' uM') ∧ (∀ (ts : List Tx) (uC uM : St) (a0 : Int32) (a1 : Int32) (a2 : Int32), Rel ts uC uM → ∃ (r : Int32) (uC' : St) (uM' : St), fX11_law uC a0 a1 a2 = some (r, uC') ∧ fX12_law uM a0 a1 a2 = some (r, uM') ∧ Rel ts uC' uM') ∧ (∀ (ts : List Tx) (uC uM : St) (a0 : Int32) (a1 : Int32), Rel ts uC uM → ∃ (r : Int32), fX11_lawOf uC a0 a1 = some r ∧ fX12_lawOf uM a0 a1 = some r ∧ Rel ts uC uM) ∧ (∀ (ts : List Tx) (uC uM : St) (a0 : Int32) (a1 : Int32) (a2 : Int32) (a3 : Int32), Rel ts uC uM → ∃ (r : Int64) (uC' : St) (uM' : St), fX11_says ts uC a0 a1 a2 a3 = some (r, uC') ∧ fX12_says uM a0 a1 a2 a3 = some (r, uM') ∧ Rel ts uC' uM') ∧ (∀ (ts : List Tx) (uC uM : St) (a0 : Int32), Rel ts uC uM → ∃ (r : Int64) (uC' : St) (uM' : St), fX11_given ts uC a0 = some (r, uC') ∧ fX12_given uM a0 = some (r, uM') ∧ Rel ts uC' uM') ∧ (∀ (ts : List Tx) (uC uM : St) (a0 : Int32), Rel ts uC uM → ∃ (r : Int64) (uC' : St) (uM' : St), fX11_claim ts uC a0 = some (r, uC') ∧ fX12_claim uM a0 = some (r, uM') ∧ Rel ts uC' uM') ∧ (∀ (ts : List Tx) (uC uM : St) , Rel ts uC uM → ∃ (r : Int32) (uC' : St) (uM' : St), fX11_judge ts uC = some (r, uC') ∧ fX12_judge uM = some (r, uM') ∧ Rel ts uC' uM') ∧ (∀ (ts : List Tx) (uC uM : St) (a0 : Int32) (a1 : Int32), Rel ts uC uM → ∃ (r : Int64), fX11_judged uC a0 a1 = some r ∧ fX12_judged uM a0 a1 = some r ∧ Rel ts uC uM) ∧ (∀ (ts : List Tx) (uC uM : St) (a0 : Int32), Rel ts uC uM → ∃ (r : Int32) (uC' : St) (uM' : St), fX11_changed ts uC a0 = some (r, uC') ∧ fX12_changed uM a0 = some (r, uM') ∧ Rel ts uC' uM') ∧ (∀ (ts : List Tx) (uC uM : St) (a0 : Int32) (a1 : Int32), Rel ts uC uM → ∃ (r : Int64) (uC' : St) (uM' : St), fX11_worst uC a0 a1 = some (r, uC') ∧ fX12_worst uM a0 a1 = some (r, uM') ∧ Rel ts uC' uM') ∧ (∀ (ts : List Tx) (uC uM : St) , Rel ts uC uM → ∃ (r : Int32) (uC' : St) (uM' : St), fX11_question uC = some (r, uC') ∧ fX12_question uM = some (r, uM') ∧ Rel ts uC' uM') ∧ (∀ (ts : List Tx) (uC uM : St) (a0 : Int32) (a1 : Int32), Rel ts uC uM → ∃ (r : Int64) (uC' : St) (uM' : St), fX11_worstOfTwo uC a0 a1 = some (r, uC') ∧ fX12_worstOfTwo uM a0 a1 = some (r, uM') ∧ Rel ts uC' uM') ∧ (∀ (ts : List Tx) (uC uM : St) , Rel ts uC uM → ∃ (r : Int32) (uC' : St) (uM' : St), fX11_firstOfTwo uC = some (r, uC') ∧ fX12_firstOfTwo uM = some (r, uM') ∧ Rel ts uC' uM') ∧ (∀ (ts : List Tx) (uC uM : St) (a0 : Int32) (a1 : Int32), Rel ts uC uM → ∃ (r : Int32) (uC' : St) (uM' : St), fX11_sherd uC a0 a1 = some (r, uC') ∧ fX12_sherd uM a0 a1 = some (r, uM') ∧ Rel ts uC' uM') ∧ (∀ (ts : List Tx) (uC uM : St) (a0 : Int32) (a1 : Int32), Rel ts uC uM → ∃ (r : Int32) (uC' : St) (uM' : St), fX11_set uC a0 a1 = some (r, uC') ∧ fX12_set uM a0 a1 = some (r, uM') ∧ Rel ts uC' uM') ∧ (∀ (ts : List Tx) (uC uM : St) (a0 : Int32) (a1 : Int32), Rel ts uC uM → ∃ (r : Int32), fX11_joined uC a0 a1 = some r ∧ fX12_joined uM a0 a1 = some r ∧ Rel ts uC uM) ∧ (∀ (ts : List Tx) (uC uM : St) (a0 : Int32), Rel ts uC uM → ∃ (r : Int32) (uC' : St) (uM' : St), fX11_row uC a0 = some (r, uC') ∧ fX12_row uM a0 = some (r, uM') ∧ Rel ts uC' uM') ∧ (∀ (ts : List Tx) (uC uM : St) (a0 : Int32) (a1 : Int32), Rel ts uC uM → ∃ (r : Int32) (uC' : St) (uM' : St), fX11_record uC a0 a1 = some (r, uC') ∧ fX12_record uM a0 a1 = some (r, uM') ∧ Rel ts uC' uM') ∧ (∀ (ts : List Tx) (uC uM : St) (a0 : Int32) (a1 : Int32) (a2 : Int32), Rel ts uC uM → ∃ (r : Int32) (uM' : St), fX11_same uC a0 a1 a2 = some r ∧ fX12_same uM a0 a1 a2 = some (r, uM') ∧ Rel ts uC uM') ∧ (∀ (ts : List Tx) (uC uM : St) (a0 : Int32), Rel ts uC uM → ∃ (r : Int32) (uM' : St), fX11_things uC a0 = some r ∧ fX12_things uM a0 = some (r, uM') ∧ Rel ts uC uM') ∧ (∀ (ts : List Tx) (uC uM : St) (a0 : Int32), Rel ts uC uM → ∃ (r : Int32), fX11_count uC a0 = some r ∧ fX12_count uM a0 = some r ∧ Rel ts uC uM) ∧ (∀ (ts : List Tx) (uC uM : St) (a0 : Int32) (a1 : Int32) (a2 : Int32), Rel ts uC uM → ∃ (r : Int32) (uC' : St) (uM' : St), fX11_sheet uC a0 a1 a2 = some (r, uC') ∧ fX12_sheet uM a0 a1 a2 = some (r, uM') ∧ Rel ts uC' uM') ∧ (∀ (ts : List Tx) (uC uM : St) (a0 : Int32) (a1 : Int32) (a2 : Int32), Rel ts uC uM → ∃ (r : Int32) (uC' : St) (uM' : St), fX11_cell uC a0 a1 a2 = some (r, uC') ∧ fX12_cell uM a0 a1 a2 = some (r, uM') ∧ Rel ts uC' uM') ∧ (∀ (ts : List Tx) (uC uM : St) (a0 : Int32) (a1 : Int32) (a2 : Int32) (a3 : Int32) (a4 : Int32), Rel ts uC uM → ∃ (r : Int32) (uC' : St) (uM' : St), fX11_copy uC a0 a1 a2 a3 a4 = some (r, uC') ∧ fX12_copy uM a0 a1 a2 a3 a4 = some (r, uM') ∧ Rel ts uC' uM') ∧ (∀ (ts : List Tx) (uC uM : St) (a0 : Int32) (a1 : Int32) (a2 : Int32) (a3 : Int32), Rel ts uC uM → ∃ (r : Int32) (uC' : St) (uM' : St), fX11_papers uC a0 a1 a2 a3 = some (r, uC') ∧ fX12_papers uM a0 a1 a2 a3 = some (r, uM') ∧ Rel ts uC' uM') ∧ (∀ (ts : List Tx) (uC uM : St) (a0 : Int32) (a1 : Int32), Rel ts uC uM → ∃ (r : Int32), fX11_taken uC a0 a1 = some r ∧ fX12_taken uM a0 a1 = some r ∧ Rel ts uC uM) ∧ (∀ v : Int32, ∃ (r0 : Int32) (res : St), fJ9_floorMod_7cf53 v 11 = some r0 ∧ fX12_init u0M v = some res ∧ Rel ts0 (u0C (2 + r0)) res)
theorem tA_way {Rel : List Tx → St → St → Prop} (h : TAll Rel) : (∀ (ts : List Tx) (uC uM : St) (a0 : Int32) (a1 : Int32) (a2 : Int32) (a3 : Int32), Rel ts uC uM → ∃ (r : Int32) (uC' : St) (uM' : St), fX11_way uC a0 a1 a2 a3 = some (r, uC') ∧ fX12_way uM a0 a1 a2 a3 = some (r, uM') ∧ Rel ts uC' uM') := h.1
theorem tA_soil {Rel : List Tx → St → St → Prop} (h : TAll Rel) : (∀ (ts : List Tx) (uC uM : St) (a0 : Int32), Rel ts uC uM → ∃ (r : Int32) (uC' : St) (uM' : St), fX11_soil uC a0 = some (r, uC') ∧ fX12_soil uM a0 = some (r, uM') ∧ Rel ts uC' uM') := h.2.1
theorem tA_paper {Rel : List Tx → St → St → Prop} (h : TAll Rel) : (∀ (ts : List Tx) (uC uM : St) (a0 : Int32) (a1 : Int32) (a2 : Int32) (a3 : Int32) (a4 : Int32), Rel ts uC uM → ∃ (r : Int32) (uC' : St) (uM' : St), fX11_paper uC a0 a1 a2 a3 a4 = some (r, uC') ∧ fX12_paper uM a0 a1 a2 a3 a4 = some (r, uM') ∧ Rel ts uC' uM') := h.2.2.1
theorem tA_paperTold {Rel : List Tx → St → St → Prop} (h : TAll Rel) : (∀ (ts : List Tx) (uC uM : St) (a0 : Int32) (a1 : Int32), Rel ts uC uM → ∃ (r : Int32), fX11_paperTold uC a0 a1 = some r ∧ fX12_paperTold uM a0 a1 = some r ∧ Rel ts uC uM) := h.2.2.2.1
theorem tA_allows {Rel : List Tx → St → St → Prop} (h : TAll Rel) : (∀ (ts : List Tx) (uC uM : St) (a0 : Int32) (a1 : Int32) (a2 : Int32), Rel ts uC uM → ∃ (r : Int32), fX11_allows uC a0 a1 a2 = some r ∧ fX12_allows uM a0 a1 a2 = some r ∧ Rel ts uC uM) := h.2.2.2.2.1
theorem tA_forge {Rel : List Tx → St → St → Prop} (h : TAll Rel) : (∀ (ts : List Tx) (uC uM : St) (a0 : Int32) (a1 : Int32), Rel ts uC uM → ∃ (r : Int32) (uC' : St) (uM' : St), fX11_forge uC a0 a1 = some (r, uC') ∧ fX12_forge uM a0 a1 = some (r, uM') ∧ Rel ts uC' uM') := h.2.2.2.2.2.1
theorem tA_fall {Rel : List Tx → St → St → Prop} (h : TAll Rel) : (∀ (ts : List Tx) (uC uM : St) (a0 : Int32), Rel ts uC uM → ∃ (r : Int32), fX11_fall uC a0 = some r ∧ fX12_fall uM a0 = some r ∧ Rel ts uC uM) := h.2.2.2.2.2.2.1
theorem tA_histories {Rel : List Tx → St → St → Prop} (h : TAll Rel) : (∀ (ts : List Tx) (uC uM : St) , Rel ts uC uM → ∃ (r : Int64) (uC' : St) (uM' : St), fX11_histories uC = some (r, uC') ∧ fX12_histories uM = some (r, uM') ∧ Rel ts uC' uM') := h.2.2.2.2.2.2.2.1
theorem tA_at {Rel : List Tx → St → St → Prop} (h : TAll Rel) : (∀ (ts : List Tx) (uC uM : St) (a0 : Int32) (a1 : Int32), Rel ts uC uM → ∃ (r : Int64) (uC' : St) (uM' : St), fX11_at uC a0 a1 = some (r, uC') ∧ fX12_at uM a0 a1 = some (r, uM') ∧ Rel ts uC' uM') := h.2.2.2.2.2.2.2.2.1
theorem tA_both {Rel : List Tx → St → St → Prop} (h : TAll Rel) : (∀ (ts : List Tx) (uC uM : St) (a0 : Int32) (a1 : Int32) (a2 : Int32) (a3 : Int32), Rel ts uC uM → ∃ (r : Int64) (uC' : St) (uM' : St), fX11_both uC a0 a1 a2 a3 = some (r, uC') ∧ fX12_both uM a0 a1 a2 a3 = some (r, uM') ∧ Rel ts uC' uM') := h.2.2.2.2.2.2.2.2.2.1
theorem tA_history {Rel : List Tx → St → St → Prop} (h : TAll Rel) : (∀ (ts : List Tx) (uC uM : St) (a0 : Int32) (a1 : Int32), Rel ts uC uM → ∃ (r : Int32) (uC' : St) (uM' : St), fX11_history uC a0 a1 = some (r, uC') ∧ fX12_history uM a0 a1 = some (r, uM') ∧ Rel ts uC' uM') := h.2.2.2.2.2.2.2.2.2.2.1
theorem tA_feed {Rel : List Tx → St → St → Prop} (h : TAll Rel) : (∀ (ts : List Tx) (uC uM : St) (a0 : Int32) (a1 : Int64), Rel ts uC uM → ∃ (r : Int32) (uC' : St) (uM' : St), fX11_feed uC a0 a1 = some (r, uC') ∧ fX12_feed uM a0 a1 = some (r, uM') ∧ Rel ts uC' uM') := h.2.2.2.2.2.2.2.2.2.2.2.1
theorem tA_text {Rel : List Tx → St → St → Prop} (h : TAll Rel) : (∀ (ts : List Tx) (uC uM : St), Rel ts uC uM → (gZ uC 61 = nI ts.length ∧ ts.length ≤ 6 ∧ (¬ gZ uC 61 = 6 → ∃ (f : Int32) (u1 : St), fX5_readText uC = some (f, u1) ∧ gZ u1 61 = gZ uC 61 ∧ (f = -1 → ∃ N : Nat, gZ u1 104 = nI N ∧ N < 160))) ∧ ∀ (r : Int32) (ts' : List Tx) (uC' : St), TextR ts uC r ts' uC' → ∃ uM' : St, fX12_text uM = some (r, uM') ∧ Rel ts' uC' uM') := h.2.2.2.2.2.2.2.2.2.2.2.2.1
theorem tA_law {Rel : List Tx → St → St → Prop} (h : TAll Rel) : (∀ (ts : List Tx) (uC uM : St) (a0 : Int32) (a1 : Int32) (a2 : Int32), Rel ts uC uM → ∃ (r : Int32) (uC' : St) (uM' : St), fX11_law uC a0 a1 a2 = some (r, uC') ∧ fX12_law uM a0 a1 a2 = some (r, uM') ∧ Rel ts uC' uM') := h.2.2.2.2.2.2.2.2.2.2.2.2.2.1
theorem tA_lawOf {Rel : List Tx → St → St → Prop} (h : TAll Rel) : (∀ (ts : List Tx) (uC uM : St) (a0 : Int32) (a1 : Int32), Rel ts uC uM → ∃ (r : Int32), fX11_lawOf uC a0 a1 = some r ∧ fX12_lawOf uM a0 a1 = some r ∧ Rel ts uC uM) := h.2.2.2.2.2.2.2.2.2.2.2.2.2.2.1
theorem tA_says {Rel : List Tx → St → St → Prop} (h : TAll Rel) : (∀ (ts : List Tx) (uC uM : St) (a0 : Int32) (a1 : Int32) (a2 : Int32) (a3 : Int32), Rel ts uC uM → ∃ (r : Int64) (uC' : St) (uM' : St), fX11_says ts uC a0 a1 a2 a3 = some (r, uC') ∧ fX12_says uM a0 a1 a2 a3 = some (r, uM') ∧ Rel ts uC' uM') := h.2.2.2.2.2.2.2.2.2.2.2.2.2.2.2.1
theorem tA_given {Rel : List Tx → St → St → Prop} (h : TAll Rel) : (∀ (ts : List Tx) (uC uM : St) (a0 : Int32), Rel ts uC uM → ∃ (r : Int64) (uC' : St) (uM' : St), fX11_given ts uC a0 = some (r, uC') ∧ fX12_given uM a0 = some (r, uM') ∧ Rel ts uC' uM') := h.2.2.2.2.2.2.2.2.2.2.2.2.2.2.2.2.1
theorem tA_claim {Rel : List Tx → St → St → Prop} (h : TAll Rel) : (∀ (ts : List Tx) (uC uM : St) (a0 : Int32), Rel ts uC uM → ∃ (r : Int64) (uC' : St) (uM' : St), fX11_claim ts uC a0 = some (r, uC') ∧ fX12_claim uM a0 = some (r, uM') ∧ Rel ts uC' uM') := h.2.2.2.2.2.2.2.2.2.2.2.2.2.2.2.2.2.1
theorem tA_judge {Rel : List Tx → St → St → Prop} (h : TAll Rel) : (∀ (ts : List Tx) (uC uM : St) , Rel ts uC uM → ∃ (r : Int32) (uC' : St) (uM' : St), fX11_judge ts uC = some (r, uC') ∧ fX12_judge uM = some (r, uM') ∧ Rel ts uC' uM') := h.2.2.2.2.2.2.2.2.2.2.2.2.2.2.2.2.2.2.1
theorem tA_judged {Rel : List Tx → St → St → Prop} (h : TAll Rel) : (∀ (ts : List Tx) (uC uM : St) (a0 : Int32) (a1 : Int32), Rel ts uC uM → ∃ (r : Int64), fX11_judged uC a0 a1 = some r ∧ fX12_judged uM a0 a1 = some r ∧ Rel ts uC uM) := h.2.2.2.2.2.2.2.2.2.2.2.2.2.2.2.2.2.2.2.1
theorem tA_changed {Rel : List Tx → St → St → Prop} (h : TAll Rel) : (∀ (ts : List Tx) (uC uM : St) (a0 : Int32), Rel ts uC uM → ∃ (r : Int32) (uC' : St) (uM' : St), fX11_changed ts uC a0 = some (r, uC') ∧ fX12_changed uM a0 = some (r, uM') ∧ Rel ts uC' uM') := h.2.2.2.2.2.2.2.2.2.2.2.2.2.2.2.2.2.2.2.2.1
theorem tA_worst {Rel : List Tx → St → St → Prop} (h : TAll Rel) : (∀ (ts : List Tx) (uC uM : St) (a0 : Int32) (a1 : Int32), Rel ts uC uM → ∃ (r : Int64) (uC' : St) (uM' : St), fX11_worst uC a0 a1 = some (r, uC') ∧ fX12_worst uM a0 a1 = some (r, uM') ∧ Rel ts uC' uM') := h.2.2.2.2.2.2.2.2.2.2.2.2.2.2.2.2.2.2.2.2.2.1
theorem tA_question {Rel : List Tx → St → St → Prop} (h : TAll Rel) : (∀ (ts : List Tx) (uC uM : St) , Rel ts uC uM → ∃ (r : Int32) (uC' : St) (uM' : St), fX11_question uC = some (r, uC') ∧ fX12_question uM = some (r, uM') ∧ Rel ts uC' uM') := h.2.2.2.2.2.2.2.2.2.2.2.2.2.2.2.2.2.2.2.2.2.2.1
theorem tA_worstOfTwo {Rel : List Tx → St → St → Prop} (h : TAll Rel) : (∀ (ts : List Tx) (uC uM : St) (a0 : Int32) (a1 : Int32), Rel ts uC uM → ∃ (r : Int64) (uC' : St) (uM' : St), fX11_worstOfTwo uC a0 a1 = some (r, uC') ∧ fX12_worstOfTwo uM a0 a1 = some (r, uM') ∧ Rel ts uC' uM') := h.2.2.2.2.2.2.2.2.2.2.2.2.2.2.2.2.2.2.2.2.2.2.2.1
theorem tA_firstOfTwo {Rel : List Tx → St → St → Prop} (h : TAll Rel) : (∀ (ts : List Tx) (uC uM : St) , Rel ts uC uM → ∃ (r : Int32) (uC' : St) (uM' : St), fX11_firstOfTwo uC = some (r, uC') ∧ fX12_firstOfTwo uM = some (r, uM') ∧ Rel ts uC' uM') := h.2.2.2.2.2.2.2.2.2.2.2.2.2.2.2.2.2.2.2.2.2.2.2.2.1
theorem tA_sherd {Rel : List Tx → St → St → Prop} (h : TAll Rel) : (∀ (ts : List Tx) (uC uM : St) (a0 : Int32) (a1 : Int32), Rel ts uC uM → ∃ (r : Int32) (uC' : St) (uM' : St), fX11_sherd uC a0 a1 = some (r, uC') ∧ fX12_sherd uM a0 a1 = some (r, uM') ∧ Rel ts uC' uM') := h.2.2.2.2.2.2.2.2.2.2.2.2.2.2.2.2.2.2.2.2.2.2.2.2.2.1
theorem tA_set {Rel : List Tx → St → St → Prop} (h : TAll Rel) : (∀ (ts : List Tx) (uC uM : St) (a0 : Int32) (a1 : Int32), Rel ts uC uM → ∃ (r : Int32) (uC' : St) (uM' : St), fX11_set uC a0 a1 = some (r, uC') ∧ fX12_set uM a0 a1 = some (r, uM') ∧ Rel ts uC' uM') := h.2.2.2.2.2.2.2.2.2.2.2.2.2.2.2.2.2.2.2.2.2.2.2.2.2.2.1
theorem tA_joined {Rel : List Tx → St → St → Prop} (h : TAll Rel) : (∀ (ts : List Tx) (uC uM : St) (a0 : Int32) (a1 : Int32), Rel ts uC uM → ∃ (r : Int32), fX11_joined uC a0 a1 = some r ∧ fX12_joined uM a0 a1 = some r ∧ Rel ts uC uM) := h.2.2.2.2.2.2.2.2.2.2.2.2.2.2.2.2.2.2.2.2.2.2.2.2.2.2.2.1
theorem tA_row {Rel : List Tx → St → St → Prop} (h : TAll Rel) : (∀ (ts : List Tx) (uC uM : St) (a0 : Int32), Rel ts uC uM → ∃ (r : Int32) (uC' : St) (uM' : St), fX11_row uC a0 = some (r, uC') ∧ fX12_row uM a0 = some (r, uM') ∧ Rel ts uC' uM') := h.2.2.2.2.2.2.2.2.2.2.2.2.2.2.2.2.2.2.2.2.2.2.2.2.2.2.2.2.1
theorem tA_record {Rel : List Tx → St → St → Prop} (h : TAll Rel) : (∀ (ts : List Tx) (uC uM : St) (a0 : Int32) (a1 : Int32), Rel ts uC uM → ∃ (r : Int32) (uC' : St) (uM' : St), fX11_record uC a0 a1 = some (r, uC') ∧ fX12_record uM a0 a1 = some (r, uM') ∧ Rel ts uC' uM') := h.2.2.2.2.2.2.2.2.2.2.2.2.2.2.2.2.2.2.2.2.2.2.2.2.2.2.2.2.2.1
theorem tA_same {Rel : List Tx → St → St → Prop} (h : TAll Rel) : (∀ (ts : List Tx) (uC uM : St) (a0 : Int32) (a1 : Int32) (a2 : Int32), Rel ts uC uM → ∃ (r : Int32) (uM' : St), fX11_same uC a0 a1 a2 = some r ∧ fX12_same uM a0 a1 a2 = some (r, uM') ∧ Rel ts uC uM') := h.2.2.2.2.2.2.2.2.2.2.2.2.2.2.2.2.2.2.2.2.2.2.2.2.2.2.2.2.2.2.1
theorem tA_things {Rel : List Tx → St → St → Prop} (h : TAll Rel) : (∀ (ts : List Tx) (uC uM : St) (a0 : Int32), Rel ts uC uM → ∃ (r : Int32) (uM' : St), fX11_things uC a0 = some r ∧ fX12_things uM a0 = some (r, uM') ∧ Rel ts uC uM') := h.2.2.2.2.2.2.2.2.2.2.2.2.2.2.2.2.2.2.2.2.2.2.2.2.2.2.2.2.2.2.2.1
theorem tA_count {Rel : List Tx → St → St → Prop} (h : TAll Rel) : (∀ (ts : List Tx) (uC uM : St) (a0 : Int32), Rel ts uC uM → ∃ (r : Int32), fX11_count uC a0 = some r ∧ fX12_count uM a0 = some r ∧ Rel ts uC uM) := h.2.2.2.2.2.2.2.2.2.2.2.2.2.2.2.2.2.2.2.2.2.2.2.2.2.2.2.2.2.2.2.2.1
theorem tA_sheet {Rel : List Tx → St → St → Prop} (h : TAll Rel) : (∀ (ts : List Tx) (uC uM : St) (a0 : Int32) (a1 : Int32) (a2 : Int32), Rel ts uC uM → ∃ (r : Int32) (uC' : St) (uM' : St), fX11_sheet uC a0 a1 a2 = some (r, uC') ∧ fX12_sheet uM a0 a1 a2 = some (r, uM') ∧ Rel ts uC' uM') := h.2.2.2.2.2.2.2.2.2.2.2.2.2.2.2.2.2.2.2.2.2.2.2.2.2.2.2.2.2.2.2.2.2.1
theorem tA_cell {Rel : List Tx → St → St → Prop} (h : TAll Rel) : (∀ (ts : List Tx) (uC uM : St) (a0 : Int32) (a1 : Int32) (a2 : Int32), Rel ts uC uM → ∃ (r : Int32) (uC' : St) (uM' : St), fX11_cell uC a0 a1 a2 = some (r, uC') ∧ fX12_cell uM a0 a1 a2 = some (r, uM') ∧ Rel ts uC' uM') := h.2.2.2.2.2.2.2.2.2.2.2.2.2.2.2.2.2.2.2.2.2.2.2.2.2.2.2.2.2.2.2.2.2.2.1
theorem tA_copy {Rel : List Tx → St → St → Prop} (h : TAll Rel) : (∀ (ts : List Tx) (uC uM : St) (a0 : Int32) (a1 : Int32) (a2 : Int32) (a3 : Int32) (a4 : Int32), Rel ts uC uM → ∃ (r : Int32) (uC' : St) (uM' : St), fX11_copy uC a0 a1 a2 a3 a4 = some (r, uC') ∧ fX12_copy uM a0 a1 a2 a3 a4 = some (r, uM') ∧ Rel ts uC' uM') := h.2.2.2.2.2.2.2.2.2.2.2.2.2.2.2.2.2.2.2.2.2.2.2.2.2.2.2.2.2.2.2.2.2.2.2.1
theorem tA_papers {Rel : List Tx → St → St → Prop} (h : TAll Rel) : (∀ (ts : List Tx) (uC uM : St) (a0 : Int32) (a1 : Int32) (a2 : Int32) (a3 : Int32), Rel ts uC uM → ∃ (r : Int32) (uC' : St) (uM' : St), fX11_papers uC a0 a1 a2 a3 = some (r, uC') ∧ fX12_papers uM a0 a1 a2 a3 = some (r, uM') ∧ Rel ts uC' uM') := h.2.2.2.2.2.2.2.2.2.2.2.2.2.2.2.2.2.2.2.2.2.2.2.2.2.2.2.2.2.2.2.2.2.2.2.2.1
theorem tA_taken {Rel : List Tx → St → St → Prop} (h : TAll Rel) : (∀ (ts : List Tx) (uC uM : St) (a0 : Int32) (a1 : Int32), Rel ts uC uM → ∃ (r : Int32), fX11_taken uC a0 a1 = some r ∧ fX12_taken uM a0 a1 = some r ∧ Rel ts uC uM) := h.2.2.2.2.2.2.2.2.2.2.2.2.2.2.2.2.2.2.2.2.2.2.2.2.2.2.2.2.2.2.2.2.2.2.2.2.2.1
theorem tA_init {Rel : List Tx → St → St → Prop} (h : TAll Rel) : (∀ v : Int32, ∃ (r0 : Int32) (res : St), fJ9_floorMod_7cf53 v 11 = some r0 ∧ fX12_init u0M v = some res ∧ Rel ts0 (u0C (2 + r0)) res) := h.2.2.2.2.2.2.2.2.2.2.2.2.2.2.2.2.2.2.2.2.2.2.2.2.2.2.2.2.2.2.2.2.2.2.2.2.2.2
def R_law : String := "VaseCourtLaw"
/-- what the law's own walk stands on beside the world: the class's premises, its array of texts, the script -/
def ZL (g : Nat → Nat) (b L : Nat) (xs : Nat → Int32) (A : Nat → Prop) (U : State) : Prop := ZC g A U ∧ va_AO "VaseCourt$Text" U ∧ va_X b L xs U U.heap ∧ b < U.heap.size ∧ ¬ A b
theorem ZL_ok (g : Nat → Nat) (b L : Nat) (xs : Nat → Int32) : ZOK (ZL g b L xs) := by
  refine ⟨fun A B s U locs h hS hW hAB => ?_, fun A U fr mk a h => ?_⟩
  · obtain ⟨h1, h2, h3, h4, h5⟩ := h
    exact ⟨(ZC_ok g).1 A B s U locs h1 hS hW hAB, va_AO.moved hW.alike h2, va_X.moved hW.alike (h3.kept (hS.2.1 b h4 h5)), Nat.lt_of_lt_of_le h4 hS.1, fun z => h5 (hAB b z)⟩
  · obtain ⟨h1, h2, h3, h4, h5⟩ := h
    exact ⟨(ZC_ok g).2 A U fr mk a h1, va_AO.moved (u := U) (U := U.calling fr mk a) (Vm.Alike.refl U.vm) h2, va_X.moved (u := U) (U := U.calling fr mk a) (Vm.Alike.refl U.vm) h3, h4, h5⟩
section LawRows
variable {X : Cx} {cc : ByteArray} {nL k n : Nat} {own : String} {R : Room} {V : Vx} {w wc wr wl w1 : va_W} {pc pc' idx : Nat} {lv : List (Nat × Value)} {st : List Value} {g : Nat → Nat} {b L : Nat} {xs : Nat → Int32}
def EnvL (V : Vx) (g : Nat → Nat) (b L : Nat) (xs : Nat → Int32) : Prop := ZOK (vZ V) ∧ ∀ (A : Nat → Prop) (U : State), vZ V A U → ZL g b L xs A U
theorem EnvL.c (h : EnvL V g b L xs) : EnvC V g := ⟨h.1, fun A U z => (h.2 A U z).1⟩
theorem EnvL.o (h : EnvL V g b L xs) : EnvO V := fun A U z => (h.2 A U z).2.1
theorem a_sld {i : Int32} (hX : OK X cc nL own R V) (hE : EnvL V g b L xs) (hin : vp_in i L) (d : decode cc pc = .ok (.iaload, 1)) (hp : pc + 1 = pc') (kk : At X nL k n w pc' lv (.int (xs i.toNatClampNeg) :: st)) : At X nL k n w pc lv (.int i :: .ref b :: st) := by
  subst hp
  obtain ⟨-, -, h3, h4, h5⟩ := hE.2 _ _ hX.2.2.2.2.2.2.2.2.1
  exact fun H locs ls hP hD hS hl => va_sld hX.1 hX.2.1 h3 h4 h5 hS hin d (kk H locs ls hP hD hS hl)
theorem a_slenX (hX : OK X cc nL own R V) (hE : EnvL V g b L xs) (d : decode cc pc = .ok (.arraylength, 1)) (hp : pc + 1 = pc') (kk : At X nL k n w pc' lv (.int (nI L) :: st)) : At X nL k n w pc lv (.ref b :: st) := by
  subst hp
  obtain ⟨-, -, h3, h4, h5⟩ := hE.2 _ _ hX.2.2.2.2.2.2.2.2.1
  exact fun H locs ls hP hD hS hl => va_slen hX.1 hX.2.1 h3 h4 h5 hS d (kk H locs ls hP hD hS hl)
section LC
variable {stk rest As : List Value} {y : MethodName} {bytes : ByteArray} {maxL : Nat} {ret : Option FieldType} {rm : Room} {C : String} {a : Nat} {v : Value} {q0 ci : Nat} {fs : List Value} {T : u_T} {N : Nat}
theorem a_LC (hX : OK X cc nL own R V) (hZ : ZOK (vZ V)) (hC : Ct V y (.code y bytes maxL ret) rm 0 0 (.ref a :: As) wc (rEq (some v) w1)) (hk : LkV own idx C y bytes maxL ret As.length) (hrecv : wc[q0]? = some (a, .inr (ci, fs)) ∧ classes[ci]? = some (C, T, N)) (hroom : RmOK rm maxL 0 0 R) (hcs : k ≤ R.cells ∧ n ≤ R.slots) (hst : (rest.map fun v => v.category).sum ≤ 8) (d : decode cc pc = .ok (.invokevirtual idx, 3)) (hp : pc + 3 = pc') (hs : stk = As.reverse ++ .ref a :: rest) (kk : At X nL k n (w1 ++ wr) pc' lv (v :: rest)) : At X nL k n (wc ++ wr) pc lv stk :=
  a_callV hX hZ Sub.left hC hk hrecv hroom hcs hst d hp hs (fun rv w' h => by obtain ⟨rfl, rfl⟩ := h; exact kk)
theorem a_LM (hX : OK X cc nL own R V) (hZ : ZOK (vZ V)) (hC : Ct V y (.code y bytes maxL ret) rm 0 0 (.ref a :: As) wc (rEq (some v) w1)) (hk : LkV own idx C y bytes maxL ret As.length) (hrecv : wc[q0]? = some (a, .inr (ci, fs)) ∧ classes[ci]? = some (C, T, N)) (hroom : RmOK rm maxL 0 0 R) (hcs : k ≤ R.cells ∧ n ≤ R.slots) (hst : (rest.map fun v => v.category).sum ≤ 8) (d : decode cc pc = .ok (.invokevirtual idx, 3)) (hp : pc + 3 = pc') (hs : stk = As.reverse ++ .ref a :: rest) (kk : At X nL k n (wl ++ w1) pc' lv (v :: rest)) : At X nL k n (wl ++ wc) pc lv stk :=
  a_callV hX hZ Sub.right hC hk hrecv hroom hcs hst d hp hs (fun rv w' h => by obtain ⟨rfl, rfl⟩ := h; exact kk)
end LC
end LawRows
def Ins (x3 : Int32) (L : Nat) : Prop := vp_in x3 L ∧ vp_in (x3 + 1) L ∧ vp_in (x3 + 2) L ∧ vp_in (x3 + 3) L ∧ vp_in (x3 + 4) L ∧ vp_in (x3 + 5) L

theorem lc_0 {Rel : List Tx → St → St → Prop} (TA : TAll Rel) {X : Cx} {V : Vx} {g : Nat → Nat} {b L : Nat} {xs : Nat → Int32} (hX : OK X code 4 RL room_1 V) (hE : EnvL V g b L xs) {qC qM : Nat → Nat} {ts : List Tx} {uC uM : St} (hR : Rel ts uC uM) {x3 : Int32} (hin : Ins x3 L) {k n : Nat} (hk : k + 2 ≤ 600000 ∧ n + 162 ≤ 7302250) (ih : ∀ (q' : Nat → Nat) (ts' : List Tx) (uC' uM' : St), Rel ts' uC' uM' → q' 11 = qC 11 → At X 4 (k + 2) (n + 162) (wC V q' ts' uC' ++ wM V qM uM') 1511 [(0, .ref b), (1, .ref (qC 11)), (2, .ref (qM 0)), (3, .int x3)] []) : At X 4 k n (wC V qC ts uC ++ wM V qM uM) 208 [(0, .ref b), (1, .ref (qC 11)), (2, .ref (qM 0)), (3, .int x3)] [] := by
  obtain ⟨r, uC', uM', hC, hM, hR'⟩ := tA_way TA ts uC uM (xs (Int32.toNatClampNeg (x3 + 1))) (xs (Int32.toNatClampNeg (x3 + 2))) (xs (Int32.toNatClampNeg (x3 + 3))) (xs (Int32.toNatClampNeg (x3 + 4))) hR
  refine a_aload_n hX dL_law_208 rfl 1 rfl rfl ?_
  refine a_aload_n hX dL_law_209 rfl 0 rfl rfl ?_
  refine a_iload_n hX dL_law_210 rfl 3 rfl rfl ?_
  refine a_iconst (v := 1) hX dL_law_211 (by decide) rfl ?_
  refine a_iadd hX dL_law_212 rfl ?_
  refine a_sld hX hE hin.2.1 dL_law_213 rfl ?_
  refine a_aload_n hX dL_law_214 rfl 0 rfl rfl ?_
  refine a_iload_n hX dL_law_215 rfl 3 rfl rfl ?_
  refine a_iconst (v := 2) hX dL_law_216 (by decide) rfl ?_
  refine a_iadd hX dL_law_217 rfl ?_
  refine a_sld hX hE hin.2.2.1 dL_law_218 rfl ?_
  refine a_aload_n hX dL_law_219 rfl 0 rfl rfl ?_
  refine a_iload_n hX dL_law_220 rfl 3 rfl rfl ?_
  refine a_iconst (v := 3) hX dL_law_221 (by decide) rfl ?_
  refine a_iadd hX dL_law_222 rfl ?_
  refine a_sld hX hE hin.2.2.2.1 dL_law_223 rfl ?_
  refine a_aload_n hX dL_law_224 rfl 0 rfl rfl ?_
  refine a_iload_n hX dL_law_225 rfl 3 rfl rfl ?_
  refine a_iconst (v := 4) hX dL_law_226 (by decide) rfl ?_
  refine a_iadd hX dL_law_227 rfl ?_
  refine a_sld hX hE hin.2.2.2.2.1 dL_law_228 rfl ?_
  refine a_LC (q0 := 0) (rest := []) hX hE.1 (ctX11_way (q := qC) hE.c hC) K_L_21 ⟨rfl, rfl⟩ ⟨rfl, rfl, by decide, by decide⟩ ⟨by show k ≤ 600000; omega, by show n ≤ 7302250; omega⟩ (Nat.le_of_ble_eq_true rfl) dL_law_229 rfl rfl ?_
  refine a_aload_n hX dL_law_232 rfl 2 rfl rfl ?_
  refine a_aload_n hX dL_law_233 rfl 0 rfl rfl ?_
  refine a_iload_n hX dL_law_234 rfl 3 rfl rfl ?_
  refine a_iconst (v := 1) hX dL_law_235 (by decide) rfl ?_
  refine a_iadd hX dL_law_236 rfl ?_
  refine a_sld hX hE hin.2.1 dL_law_237 rfl ?_
  refine a_aload_n hX dL_law_238 rfl 0 rfl rfl ?_
  refine a_iload_n hX dL_law_239 rfl 3 rfl rfl ?_
  refine a_iconst (v := 2) hX dL_law_240 (by decide) rfl ?_
  refine a_iadd hX dL_law_241 rfl ?_
  refine a_sld hX hE hin.2.2.1 dL_law_242 rfl ?_
  refine a_aload_n hX dL_law_243 rfl 0 rfl rfl ?_
  refine a_iload_n hX dL_law_244 rfl 3 rfl rfl ?_
  refine a_iconst (v := 3) hX dL_law_245 (by decide) rfl ?_
  refine a_iadd hX dL_law_246 rfl ?_
  refine a_sld hX hE hin.2.2.2.1 dL_law_247 rfl ?_
  refine a_aload_n hX dL_law_248 rfl 0 rfl rfl ?_
  refine a_iload_n hX dL_law_249 rfl 3 rfl rfl ?_
  refine a_iconst (v := 4) hX dL_law_250 (by decide) rfl ?_
  refine a_iadd hX dL_law_251 rfl ?_
  refine a_sld hX hE hin.2.2.2.2.1 dL_law_252 rfl ?_
  refine a_LM (q0 := 0) (rest := [.int (r)]) hX hE.1 (ctX12_way (q := qM) hE.1 hM) K_L_25 ⟨rfl, rfl⟩ ⟨rfl, rfl, by decide, by decide⟩ ⟨by show k ≤ 600000; omega, by show n ≤ 7302250; omega⟩ (Nat.le_of_ble_eq_true rfl) dL_law_253 rfl rfl ?_
  refine a_icmp_eq (tgt := 1511) (ft := some ()) (ff := none) (r := some ()) hX dL_law_256 rfl rfl (if_pos rfl) (fun _ => ?_) (fun h => by cases h)
  refine a_wid (k2 := k + 2) (n2 := n + 162) (by omega) (by omega) ?_
  exact ih qC ts uC' uM' hR' rfl
theorem lc_1 {Rel : List Tx → St → St → Prop} (TA : TAll Rel) {X : Cx} {V : Vx} {g : Nat → Nat} {b L : Nat} {xs : Nat → Int32} (hX : OK X code 4 RL room_1 V) (hE : EnvL V g b L xs) {qC qM : Nat → Nat} {ts : List Tx} {uC uM : St} (hR : Rel ts uC uM) {x3 : Int32} (hin : Ins x3 L) {k n : Nat} (hk : k + 2 ≤ 600000 ∧ n + 162 ≤ 7302250) (ih : ∀ (q' : Nat → Nat) (ts' : List Tx) (uC' uM' : St), Rel ts' uC' uM' → q' 11 = qC 11 → At X 4 (k + 2) (n + 162) (wC V q' ts' uC' ++ wM V qM uM') 1511 [(0, .ref b), (1, .ref (qC 11)), (2, .ref (qM 0)), (3, .int x3)] []) : At X 4 k n (wC V qC ts uC ++ wM V qM uM) 261 [(0, .ref b), (1, .ref (qC 11)), (2, .ref (qM 0)), (3, .int x3)] [] := by
  obtain ⟨r, uC', uM', hC, hM, hR'⟩ := tA_soil TA ts uC uM (xs (Int32.toNatClampNeg (x3 + 1))) hR
  refine a_aload_n hX dL_law_261 rfl 1 rfl rfl ?_
  refine a_aload_n hX dL_law_262 rfl 0 rfl rfl ?_
  refine a_iload_n hX dL_law_263 rfl 3 rfl rfl ?_
  refine a_iconst (v := 1) hX dL_law_264 (by decide) rfl ?_
  refine a_iadd hX dL_law_265 rfl ?_
  refine a_sld hX hE hin.2.1 dL_law_266 rfl ?_
  refine a_LC (q0 := 0) (rest := []) hX hE.1 (ctX11_soil (q := qC) hE.c hC) K_L_26 ⟨rfl, rfl⟩ ⟨rfl, rfl, by decide, by decide⟩ ⟨by show k ≤ 600000; omega, by show n ≤ 7302250; omega⟩ (Nat.le_of_ble_eq_true rfl) dL_law_267 rfl rfl ?_
  refine a_aload_n hX dL_law_270 rfl 2 rfl rfl ?_
  refine a_aload_n hX dL_law_271 rfl 0 rfl rfl ?_
  refine a_iload_n hX dL_law_272 rfl 3 rfl rfl ?_
  refine a_iconst (v := 1) hX dL_law_273 (by decide) rfl ?_
  refine a_iadd hX dL_law_274 rfl ?_
  refine a_sld hX hE hin.2.1 dL_law_275 rfl ?_
  refine a_LM (q0 := 0) (rest := [.int (r)]) hX hE.1 (ctX12_soil (q := qM) hE.1 hM) K_L_30 ⟨rfl, rfl⟩ ⟨rfl, rfl, by decide, by decide⟩ ⟨by show k ≤ 600000; omega, by show n ≤ 7302250; omega⟩ (Nat.le_of_ble_eq_true rfl) dL_law_276 rfl rfl ?_
  refine a_icmp_eq (tgt := 1511) (ft := some ()) (ff := none) (r := some ()) hX dL_law_279 rfl rfl (if_pos rfl) (fun _ => ?_) (fun h => by cases h)
  refine a_wid (k2 := k + 2) (n2 := n + 162) (by omega) (by omega) ?_
  exact ih qC ts uC' uM' hR' rfl
theorem lc_2 {Rel : List Tx → St → St → Prop} (TA : TAll Rel) {X : Cx} {V : Vx} {g : Nat → Nat} {b L : Nat} {xs : Nat → Int32} (hX : OK X code 4 RL room_1 V) (hE : EnvL V g b L xs) {qC qM : Nat → Nat} {ts : List Tx} {uC uM : St} (hR : Rel ts uC uM) {x3 : Int32} (hin : Ins x3 L) {k n : Nat} (hk : k + 2 ≤ 600000 ∧ n + 162 ≤ 7302250) (ih : ∀ (q' : Nat → Nat) (ts' : List Tx) (uC' uM' : St), Rel ts' uC' uM' → q' 11 = qC 11 → At X 4 (k + 2) (n + 162) (wC V q' ts' uC' ++ wM V qM uM') 1511 [(0, .ref b), (1, .ref (qC 11)), (2, .ref (qM 0)), (3, .int x3)] []) : At X 4 k n (wC V qC ts uC ++ wM V qM uM) 284 [(0, .ref b), (1, .ref (qC 11)), (2, .ref (qM 0)), (3, .int x3)] [] := by
  obtain ⟨r, uC', uM', hC, hM, hR'⟩ := tA_paper TA ts uC uM (xs (Int32.toNatClampNeg (x3 + 1))) (xs (Int32.toNatClampNeg (x3 + 2))) (xs (Int32.toNatClampNeg (x3 + 3))) (xs (Int32.toNatClampNeg (x3 + 4))) (xs (Int32.toNatClampNeg (x3 + 5))) hR
  refine a_aload_n hX dL_law_284 rfl 1 rfl rfl ?_
  refine a_aload_n hX dL_law_285 rfl 0 rfl rfl ?_
  refine a_iload_n hX dL_law_286 rfl 3 rfl rfl ?_
  refine a_iconst (v := 1) hX dL_law_287 (by decide) rfl ?_
  refine a_iadd hX dL_law_288 rfl ?_
  refine a_sld hX hE hin.2.1 dL_law_289 rfl ?_
  refine a_aload_n hX dL_law_290 rfl 0 rfl rfl ?_
  refine a_iload_n hX dL_law_291 rfl 3 rfl rfl ?_
  refine a_iconst (v := 2) hX dL_law_292 (by decide) rfl ?_
  refine a_iadd hX dL_law_293 rfl ?_
  refine a_sld hX hE hin.2.2.1 dL_law_294 rfl ?_
  refine a_aload_n hX dL_law_295 rfl 0 rfl rfl ?_
  refine a_iload_n hX dL_law_296 rfl 3 rfl rfl ?_
  refine a_iconst (v := 3) hX dL_law_297 (by decide) rfl ?_
  refine a_iadd hX dL_law_298 rfl ?_
  refine a_sld hX hE hin.2.2.2.1 dL_law_299 rfl ?_
  refine a_aload_n hX dL_law_300 rfl 0 rfl rfl ?_
  refine a_iload_n hX dL_law_301 rfl 3 rfl rfl ?_
  refine a_iconst (v := 4) hX dL_law_302 (by decide) rfl ?_
  refine a_iadd hX dL_law_303 rfl ?_
  refine a_sld hX hE hin.2.2.2.2.1 dL_law_304 rfl ?_
  refine a_aload_n hX dL_law_305 rfl 0 rfl rfl ?_
  refine a_iload_n hX dL_law_306 rfl 3 rfl rfl ?_
  refine a_iconst (v := 5) hX dL_law_307 (by decide) rfl ?_
  refine a_iadd hX dL_law_308 rfl ?_
  refine a_sld hX hE hin.2.2.2.2.2 dL_law_309 rfl ?_
  refine a_LC (q0 := 0) (rest := []) hX hE.1 (ctX11_paper (q := qC) hE.c hC) K_L_31 ⟨rfl, rfl⟩ ⟨rfl, rfl, by decide, by decide⟩ ⟨by show k ≤ 600000; omega, by show n ≤ 7302250; omega⟩ (Nat.le_of_ble_eq_true rfl) dL_law_310 rfl rfl ?_
  refine a_aload_n hX dL_law_313 rfl 2 rfl rfl ?_
  refine a_aload_n hX dL_law_314 rfl 0 rfl rfl ?_
  refine a_iload_n hX dL_law_315 rfl 3 rfl rfl ?_
  refine a_iconst (v := 1) hX dL_law_316 (by decide) rfl ?_
  refine a_iadd hX dL_law_317 rfl ?_
  refine a_sld hX hE hin.2.1 dL_law_318 rfl ?_
  refine a_aload_n hX dL_law_319 rfl 0 rfl rfl ?_
  refine a_iload_n hX dL_law_320 rfl 3 rfl rfl ?_
  refine a_iconst (v := 2) hX dL_law_321 (by decide) rfl ?_
  refine a_iadd hX dL_law_322 rfl ?_
  refine a_sld hX hE hin.2.2.1 dL_law_323 rfl ?_
  refine a_aload_n hX dL_law_324 rfl 0 rfl rfl ?_
  refine a_iload_n hX dL_law_325 rfl 3 rfl rfl ?_
  refine a_iconst (v := 3) hX dL_law_326 (by decide) rfl ?_
  refine a_iadd hX dL_law_327 rfl ?_
  refine a_sld hX hE hin.2.2.2.1 dL_law_328 rfl ?_
  refine a_aload_n hX dL_law_329 rfl 0 rfl rfl ?_
  refine a_iload_n hX dL_law_330 rfl 3 rfl rfl ?_
  refine a_iconst (v := 4) hX dL_law_331 (by decide) rfl ?_
  refine a_iadd hX dL_law_332 rfl ?_
  refine a_sld hX hE hin.2.2.2.2.1 dL_law_333 rfl ?_
  refine a_aload_n hX dL_law_334 rfl 0 rfl rfl ?_
  refine a_iload_n hX dL_law_335 rfl 3 rfl rfl ?_
  refine a_iconst (v := 5) hX dL_law_336 (by decide) rfl ?_
  refine a_iadd hX dL_law_337 rfl ?_
  refine a_sld hX hE hin.2.2.2.2.2 dL_law_338 rfl ?_
  refine a_LM (q0 := 0) (rest := [.int (r)]) hX hE.1 (ctX12_paper (q := qM) hE.1 hM) K_L_35 ⟨rfl, rfl⟩ ⟨rfl, rfl, by decide, by decide⟩ ⟨by show k ≤ 600000; omega, by show n ≤ 7302250; omega⟩ (Nat.le_of_ble_eq_true rfl) dL_law_339 rfl rfl ?_
  refine a_icmp_eq (tgt := 1511) (ft := some ()) (ff := none) (r := some ()) hX dL_law_342 rfl rfl (if_pos rfl) (fun _ => ?_) (fun h => by cases h)
  refine a_wid (k2 := k + 2) (n2 := n + 162) (by omega) (by omega) ?_
  exact ih qC ts uC' uM' hR' rfl
theorem lc_3 {Rel : List Tx → St → St → Prop} (TA : TAll Rel) {X : Cx} {V : Vx} {g : Nat → Nat} {b L : Nat} {xs : Nat → Int32} (hX : OK X code 4 RL room_1 V) (hE : EnvL V g b L xs) {qC qM : Nat → Nat} {ts : List Tx} {uC uM : St} (hR : Rel ts uC uM) {x3 : Int32} (hin : Ins x3 L) {k n : Nat} (hk : k + 2 ≤ 600000 ∧ n + 162 ≤ 7302250) (ih : ∀ (q' : Nat → Nat) (ts' : List Tx) (uC' uM' : St), Rel ts' uC' uM' → q' 11 = qC 11 → At X 4 (k + 2) (n + 162) (wC V q' ts' uC' ++ wM V qM uM') 1511 [(0, .ref b), (1, .ref (qC 11)), (2, .ref (qM 0)), (3, .int x3)] []) : At X 4 k n (wC V qC ts uC ++ wM V qM uM) 347 [(0, .ref b), (1, .ref (qC 11)), (2, .ref (qM 0)), (3, .int x3)] [] := by
  obtain ⟨r, hC, hM, hR'⟩ := tA_paperTold TA ts uC uM (xs (Int32.toNatClampNeg (x3 + 1))) (xs (Int32.toNatClampNeg (x3 + 2))) hR
  refine a_aload_n hX dL_law_347 rfl 1 rfl rfl ?_
  refine a_aload_n hX dL_law_348 rfl 0 rfl rfl ?_
  refine a_iload_n hX dL_law_349 rfl 3 rfl rfl ?_
  refine a_iconst (v := 1) hX dL_law_350 (by decide) rfl ?_
  refine a_iadd hX dL_law_351 rfl ?_
  refine a_sld hX hE hin.2.1 dL_law_352 rfl ?_
  refine a_aload_n hX dL_law_353 rfl 0 rfl rfl ?_
  refine a_iload_n hX dL_law_354 rfl 3 rfl rfl ?_
  refine a_iconst (v := 2) hX dL_law_355 (by decide) rfl ?_
  refine a_iadd hX dL_law_356 rfl ?_
  refine a_sld hX hE hin.2.2.1 dL_law_357 rfl ?_
  refine a_LC (q0 := 0) (rest := []) hX hE.1 (ctX11_paperTold (q := qC) hE.c hC) K_L_36 ⟨rfl, rfl⟩ ⟨rfl, rfl, by decide, by decide⟩ ⟨by show k ≤ 600000; omega, by show n ≤ 7302250; omega⟩ (Nat.le_of_ble_eq_true rfl) dL_law_358 rfl rfl ?_
  refine a_aload_n hX dL_law_361 rfl 2 rfl rfl ?_
  refine a_aload_n hX dL_law_362 rfl 0 rfl rfl ?_
  refine a_iload_n hX dL_law_363 rfl 3 rfl rfl ?_
  refine a_iconst (v := 1) hX dL_law_364 (by decide) rfl ?_
  refine a_iadd hX dL_law_365 rfl ?_
  refine a_sld hX hE hin.2.1 dL_law_366 rfl ?_
  refine a_aload_n hX dL_law_367 rfl 0 rfl rfl ?_
  refine a_iload_n hX dL_law_368 rfl 3 rfl rfl ?_
  refine a_iconst (v := 2) hX dL_law_369 (by decide) rfl ?_
  refine a_iadd hX dL_law_370 rfl ?_
  refine a_sld hX hE hin.2.2.1 dL_law_371 rfl ?_
  refine a_LM (q0 := 0) (rest := [.int (r)]) hX hE.1 (ctX12_paperTold (q := qM) hE.1 hM) K_L_40 ⟨rfl, rfl⟩ ⟨rfl, rfl, by decide, by decide⟩ ⟨by show k ≤ 600000; omega, by show n ≤ 7302250; omega⟩ (Nat.le_of_ble_eq_true rfl) dL_law_372 rfl rfl ?_
  refine a_icmp_eq (tgt := 1511) (ft := some ()) (ff := none) (r := some ()) hX dL_law_375 rfl rfl (if_pos rfl) (fun _ => ?_) (fun h => by cases h)
  refine a_wid (k2 := k + 2) (n2 := n + 162) (by omega) (by omega) ?_
  exact ih qC ts uC uM hR' rfl
theorem lc_4 {Rel : List Tx → St → St → Prop} (TA : TAll Rel) {X : Cx} {V : Vx} {g : Nat → Nat} {b L : Nat} {xs : Nat → Int32} (hX : OK X code 4 RL room_1 V) (hE : EnvL V g b L xs) {qC qM : Nat → Nat} {ts : List Tx} {uC uM : St} (hR : Rel ts uC uM) {x3 : Int32} (hin : Ins x3 L) {k n : Nat} (hk : k + 2 ≤ 600000 ∧ n + 162 ≤ 7302250) (ih : ∀ (q' : Nat → Nat) (ts' : List Tx) (uC' uM' : St), Rel ts' uC' uM' → q' 11 = qC 11 → At X 4 (k + 2) (n + 162) (wC V q' ts' uC' ++ wM V qM uM') 1511 [(0, .ref b), (1, .ref (qC 11)), (2, .ref (qM 0)), (3, .int x3)] []) : At X 4 k n (wC V qC ts uC ++ wM V qM uM) 380 [(0, .ref b), (1, .ref (qC 11)), (2, .ref (qM 0)), (3, .int x3)] [] := by
  obtain ⟨r, hC, hM, hR'⟩ := tA_allows TA ts uC uM (xs (Int32.toNatClampNeg (x3 + 1))) (xs (Int32.toNatClampNeg (x3 + 2))) (xs (Int32.toNatClampNeg (x3 + 3))) hR
  refine a_aload_n hX dL_law_380 rfl 1 rfl rfl ?_
  refine a_aload_n hX dL_law_381 rfl 0 rfl rfl ?_
  refine a_iload_n hX dL_law_382 rfl 3 rfl rfl ?_
  refine a_iconst (v := 1) hX dL_law_383 (by decide) rfl ?_
  refine a_iadd hX dL_law_384 rfl ?_
  refine a_sld hX hE hin.2.1 dL_law_385 rfl ?_
  refine a_aload_n hX dL_law_386 rfl 0 rfl rfl ?_
  refine a_iload_n hX dL_law_387 rfl 3 rfl rfl ?_
  refine a_iconst (v := 2) hX dL_law_388 (by decide) rfl ?_
  refine a_iadd hX dL_law_389 rfl ?_
  refine a_sld hX hE hin.2.2.1 dL_law_390 rfl ?_
  refine a_aload_n hX dL_law_391 rfl 0 rfl rfl ?_
  refine a_iload_n hX dL_law_392 rfl 3 rfl rfl ?_
  refine a_iconst (v := 3) hX dL_law_393 (by decide) rfl ?_
  refine a_iadd hX dL_law_394 rfl ?_
  refine a_sld hX hE hin.2.2.2.1 dL_law_395 rfl ?_
  refine a_LC (q0 := 0) (rest := []) hX hE.1 (ctX11_allows (q := qC) hE.c hC) K_L_41 ⟨rfl, rfl⟩ ⟨rfl, rfl, by decide, by decide⟩ ⟨by show k ≤ 600000; omega, by show n ≤ 7302250; omega⟩ (Nat.le_of_ble_eq_true rfl) dL_law_396 rfl rfl ?_
  refine a_aload_n hX dL_law_399 rfl 2 rfl rfl ?_
  refine a_aload_n hX dL_law_400 rfl 0 rfl rfl ?_
  refine a_iload_n hX dL_law_401 rfl 3 rfl rfl ?_
  refine a_iconst (v := 1) hX dL_law_402 (by decide) rfl ?_
  refine a_iadd hX dL_law_403 rfl ?_
  refine a_sld hX hE hin.2.1 dL_law_404 rfl ?_
  refine a_aload_n hX dL_law_405 rfl 0 rfl rfl ?_
  refine a_iload_n hX dL_law_406 rfl 3 rfl rfl ?_
  refine a_iconst (v := 2) hX dL_law_407 (by decide) rfl ?_
  refine a_iadd hX dL_law_408 rfl ?_
  refine a_sld hX hE hin.2.2.1 dL_law_409 rfl ?_
  refine a_aload_n hX dL_law_410 rfl 0 rfl rfl ?_
  refine a_iload_n hX dL_law_411 rfl 3 rfl rfl ?_
  refine a_iconst (v := 3) hX dL_law_412 (by decide) rfl ?_
  refine a_iadd hX dL_law_413 rfl ?_
  refine a_sld hX hE hin.2.2.2.1 dL_law_414 rfl ?_
  refine a_LM (q0 := 0) (rest := [.int (r)]) hX hE.1 (ctX12_allows (q := qM) hE.1 hM) K_L_45 ⟨rfl, rfl⟩ ⟨rfl, rfl, by decide, by decide⟩ ⟨by show k ≤ 600000; omega, by show n ≤ 7302250; omega⟩ (Nat.le_of_ble_eq_true rfl) dL_law_415 rfl rfl ?_
  refine a_icmp_eq (tgt := 1511) (ft := some ()) (ff := none) (r := some ()) hX dL_law_418 rfl rfl (if_pos rfl) (fun _ => ?_) (fun h => by cases h)
  refine a_wid (k2 := k + 2) (n2 := n + 162) (by omega) (by omega) ?_
  exact ih qC ts uC uM hR' rfl
theorem lc_5 {Rel : List Tx → St → St → Prop} (TA : TAll Rel) {X : Cx} {V : Vx} {g : Nat → Nat} {b L : Nat} {xs : Nat → Int32} (hX : OK X code 4 RL room_1 V) (hE : EnvL V g b L xs) {qC qM : Nat → Nat} {ts : List Tx} {uC uM : St} (hR : Rel ts uC uM) {x3 : Int32} (hin : Ins x3 L) {k n : Nat} (hk : k + 2 ≤ 600000 ∧ n + 162 ≤ 7302250) (ih : ∀ (q' : Nat → Nat) (ts' : List Tx) (uC' uM' : St), Rel ts' uC' uM' → q' 11 = qC 11 → At X 4 (k + 2) (n + 162) (wC V q' ts' uC' ++ wM V qM uM') 1511 [(0, .ref b), (1, .ref (qC 11)), (2, .ref (qM 0)), (3, .int x3)] []) : At X 4 k n (wC V qC ts uC ++ wM V qM uM) 423 [(0, .ref b), (1, .ref (qC 11)), (2, .ref (qM 0)), (3, .int x3)] [] := by
  obtain ⟨r, uC', uM', hC, hM, hR'⟩ := tA_forge TA ts uC uM (xs (Int32.toNatClampNeg (x3 + 1))) (xs (Int32.toNatClampNeg (x3 + 2))) hR
  refine a_aload_n hX dL_law_423 rfl 1 rfl rfl ?_
  refine a_aload_n hX dL_law_424 rfl 0 rfl rfl ?_
  refine a_iload_n hX dL_law_425 rfl 3 rfl rfl ?_
  refine a_iconst (v := 1) hX dL_law_426 (by decide) rfl ?_
  refine a_iadd hX dL_law_427 rfl ?_
  refine a_sld hX hE hin.2.1 dL_law_428 rfl ?_
  refine a_aload_n hX dL_law_429 rfl 0 rfl rfl ?_
  refine a_iload_n hX dL_law_430 rfl 3 rfl rfl ?_
  refine a_iconst (v := 2) hX dL_law_431 (by decide) rfl ?_
  refine a_iadd hX dL_law_432 rfl ?_
  refine a_sld hX hE hin.2.2.1 dL_law_433 rfl ?_
  refine a_LC (q0 := 0) (rest := []) hX hE.1 (ctX11_forge (q := qC) hE.c hC) K_L_46 ⟨rfl, rfl⟩ ⟨rfl, rfl, by decide, by decide⟩ ⟨by show k ≤ 600000; omega, by show n ≤ 7302250; omega⟩ (Nat.le_of_ble_eq_true rfl) dL_law_434 rfl rfl ?_
  refine a_aload_n hX dL_law_437 rfl 2 rfl rfl ?_
  refine a_aload_n hX dL_law_438 rfl 0 rfl rfl ?_
  refine a_iload_n hX dL_law_439 rfl 3 rfl rfl ?_
  refine a_iconst (v := 1) hX dL_law_440 (by decide) rfl ?_
  refine a_iadd hX dL_law_441 rfl ?_
  refine a_sld hX hE hin.2.1 dL_law_442 rfl ?_
  refine a_aload_n hX dL_law_443 rfl 0 rfl rfl ?_
  refine a_iload_n hX dL_law_444 rfl 3 rfl rfl ?_
  refine a_iconst (v := 2) hX dL_law_445 (by decide) rfl ?_
  refine a_iadd hX dL_law_446 rfl ?_
  refine a_sld hX hE hin.2.2.1 dL_law_447 rfl ?_
  refine a_LM (q0 := 0) (rest := [.int (r)]) hX hE.1 (ctX12_forge (q := qM) hE.1 hM) K_L_49 ⟨rfl, rfl⟩ ⟨rfl, rfl, by decide, by decide⟩ ⟨by show k ≤ 600000; omega, by show n ≤ 7302250; omega⟩ (Nat.le_of_ble_eq_true rfl) dL_law_448 rfl rfl ?_
  refine a_icmp_eq (tgt := 1511) (ft := some ()) (ff := none) (r := some ()) hX dL_law_451 rfl rfl (if_pos rfl) (fun _ => ?_) (fun h => by cases h)
  refine a_wid (k2 := k + 2) (n2 := n + 162) (by omega) (by omega) ?_
  exact ih qC ts uC' uM' hR' rfl
theorem lc_6 {Rel : List Tx → St → St → Prop} (TA : TAll Rel) {X : Cx} {V : Vx} {g : Nat → Nat} {b L : Nat} {xs : Nat → Int32} (hX : OK X code 4 RL room_1 V) (hE : EnvL V g b L xs) {qC qM : Nat → Nat} {ts : List Tx} {uC uM : St} (hR : Rel ts uC uM) {x3 : Int32} (hin : Ins x3 L) {k n : Nat} (hk : k + 2 ≤ 600000 ∧ n + 162 ≤ 7302250) (ih : ∀ (q' : Nat → Nat) (ts' : List Tx) (uC' uM' : St), Rel ts' uC' uM' → q' 11 = qC 11 → At X 4 (k + 2) (n + 162) (wC V q' ts' uC' ++ wM V qM uM') 1511 [(0, .ref b), (1, .ref (qC 11)), (2, .ref (qM 0)), (3, .int x3)] []) : At X 4 k n (wC V qC ts uC ++ wM V qM uM) 456 [(0, .ref b), (1, .ref (qC 11)), (2, .ref (qM 0)), (3, .int x3)] [] := by
  obtain ⟨r, hC, hM, hR'⟩ := tA_fall TA ts uC uM (xs (Int32.toNatClampNeg (x3 + 1))) hR
  refine a_aload_n hX dL_law_456 rfl 1 rfl rfl ?_
  refine a_aload_n hX dL_law_457 rfl 0 rfl rfl ?_
  refine a_iload_n hX dL_law_458 rfl 3 rfl rfl ?_
  refine a_iconst (v := 1) hX dL_law_459 (by decide) rfl ?_
  refine a_iadd hX dL_law_460 rfl ?_
  refine a_sld hX hE hin.2.1 dL_law_461 rfl ?_
  refine a_LC (q0 := 0) (rest := []) hX hE.1 (ctX11_fall (q := qC) hE.c hC) K_L_50 ⟨rfl, rfl⟩ ⟨rfl, rfl, by decide, by decide⟩ ⟨by show k ≤ 600000; omega, by show n ≤ 7302250; omega⟩ (Nat.le_of_ble_eq_true rfl) dL_law_462 rfl rfl ?_
  refine a_aload_n hX dL_law_465 rfl 2 rfl rfl ?_
  refine a_aload_n hX dL_law_466 rfl 0 rfl rfl ?_
  refine a_iload_n hX dL_law_467 rfl 3 rfl rfl ?_
  refine a_iconst (v := 1) hX dL_law_468 (by decide) rfl ?_
  refine a_iadd hX dL_law_469 rfl ?_
  refine a_sld hX hE hin.2.1 dL_law_470 rfl ?_
  refine a_LM (q0 := 0) (rest := [.int (r)]) hX hE.1 (ctX12_fall (q := qM) hE.1 hM) K_L_53 ⟨rfl, rfl⟩ ⟨rfl, rfl, by decide, by decide⟩ ⟨by show k ≤ 600000; omega, by show n ≤ 7302250; omega⟩ (Nat.le_of_ble_eq_true rfl) dL_law_471 rfl rfl ?_
  refine a_icmp_eq (tgt := 1511) (ft := some ()) (ff := none) (r := some ()) hX dL_law_474 rfl rfl (if_pos rfl) (fun _ => ?_) (fun h => by cases h)
  refine a_wid (k2 := k + 2) (n2 := n + 162) (by omega) (by omega) ?_
  exact ih qC ts uC uM hR' rfl
theorem lc_7 {Rel : List Tx → St → St → Prop} (TA : TAll Rel) {X : Cx} {V : Vx} {g : Nat → Nat} {b L : Nat} {xs : Nat → Int32} (hX : OK X code 4 RL room_1 V) (hE : EnvL V g b L xs) {qC qM : Nat → Nat} {ts : List Tx} {uC uM : St} (hR : Rel ts uC uM) {x3 : Int32} (hin : Ins x3 L) {k n : Nat} (hk : k + 2 ≤ 600000 ∧ n + 162 ≤ 7302250) (ih : ∀ (q' : Nat → Nat) (ts' : List Tx) (uC' uM' : St), Rel ts' uC' uM' → q' 11 = qC 11 → At X 4 (k + 2) (n + 162) (wC V q' ts' uC' ++ wM V qM uM') 1511 [(0, .ref b), (1, .ref (qC 11)), (2, .ref (qM 0)), (3, .int x3)] []) : At X 4 k n (wC V qC ts uC ++ wM V qM uM) 479 [(0, .ref b), (1, .ref (qC 11)), (2, .ref (qM 0)), (3, .int x3)] [] := by
  obtain ⟨r, uC', uM', hC, hM, hR'⟩ := tA_histories TA ts uC uM  hR
  refine a_aload_n hX dL_law_479 rfl 1 rfl rfl ?_
  refine a_LC (q0 := 0) (rest := []) hX hE.1 (ctX11_histories (q := qC) hE.c hC) K_L_54 ⟨rfl, rfl⟩ ⟨rfl, rfl, by decide, by decide⟩ ⟨by show k ≤ 600000; omega, by show n ≤ 7302250; omega⟩ (Nat.le_of_ble_eq_true rfl) dL_law_480 rfl rfl ?_
  refine a_aload_n hX dL_law_483 rfl 2 rfl rfl ?_
  refine a_LM (q0 := 0) (rest := [.long (r)]) hX hE.1 (ctX12_histories (q := qM) hE.1 hM) K_L_58 ⟨rfl, rfl⟩ ⟨rfl, rfl, by decide, by decide⟩ ⟨by show k ≤ 600000; omega, by show n ≤ 7302250; omega⟩ (Nat.le_of_ble_eq_true rfl) dL_law_484 rfl rfl ?_
  refine a_lcmp_eq (tgt := 1511) (ft := some ()) (ff := none) (r := some ()) hX dL_law_487 rfl dL_law_488 rfl rfl (if_pos rfl) (fun _ => ?_) (fun h => by cases h)
  refine a_wid (k2 := k + 2) (n2 := n + 162) (by omega) (by omega) ?_
  exact ih qC ts uC' uM' hR' rfl
theorem lc_8 {Rel : List Tx → St → St → Prop} (TA : TAll Rel) {X : Cx} {V : Vx} {g : Nat → Nat} {b L : Nat} {xs : Nat → Int32} (hX : OK X code 4 RL room_1 V) (hE : EnvL V g b L xs) {qC qM : Nat → Nat} {ts : List Tx} {uC uM : St} (hR : Rel ts uC uM) {x3 : Int32} (hin : Ins x3 L) {k n : Nat} (hk : k + 2 ≤ 600000 ∧ n + 162 ≤ 7302250) (ih : ∀ (q' : Nat → Nat) (ts' : List Tx) (uC' uM' : St), Rel ts' uC' uM' → q' 11 = qC 11 → At X 4 (k + 2) (n + 162) (wC V q' ts' uC' ++ wM V qM uM') 1511 [(0, .ref b), (1, .ref (qC 11)), (2, .ref (qM 0)), (3, .int x3)] []) : At X 4 k n (wC V qC ts uC ++ wM V qM uM) 493 [(0, .ref b), (1, .ref (qC 11)), (2, .ref (qM 0)), (3, .int x3)] [] := by
  obtain ⟨r, uC', uM', hC, hM, hR'⟩ := tA_at TA ts uC uM (xs (Int32.toNatClampNeg (x3 + 1))) (xs (Int32.toNatClampNeg (x3 + 2))) hR
  refine a_aload_n hX dL_law_493 rfl 1 rfl rfl ?_
  refine a_aload_n hX dL_law_494 rfl 0 rfl rfl ?_
  refine a_iload_n hX dL_law_495 rfl 3 rfl rfl ?_
  refine a_iconst (v := 1) hX dL_law_496 (by decide) rfl ?_
  refine a_iadd hX dL_law_497 rfl ?_
  refine a_sld hX hE hin.2.1 dL_law_498 rfl ?_
  refine a_aload_n hX dL_law_499 rfl 0 rfl rfl ?_
  refine a_iload_n hX dL_law_500 rfl 3 rfl rfl ?_
  refine a_iconst (v := 2) hX dL_law_501 (by decide) rfl ?_
  refine a_iadd hX dL_law_502 rfl ?_
  refine a_sld hX hE hin.2.2.1 dL_law_503 rfl ?_
  refine a_LC (q0 := 0) (rest := []) hX hE.1 (ctX11_at (q := qC) hE.c hC) K_L_59 ⟨rfl, rfl⟩ ⟨rfl, rfl, by decide, by decide⟩ ⟨by show k ≤ 600000; omega, by show n ≤ 7302250; omega⟩ (Nat.le_of_ble_eq_true rfl) dL_law_504 rfl rfl ?_
  refine a_aload_n hX dL_law_507 rfl 2 rfl rfl ?_
  refine a_aload_n hX dL_law_508 rfl 0 rfl rfl ?_
  refine a_iload_n hX dL_law_509 rfl 3 rfl rfl ?_
  refine a_iconst (v := 1) hX dL_law_510 (by decide) rfl ?_
  refine a_iadd hX dL_law_511 rfl ?_
  refine a_sld hX hE hin.2.1 dL_law_512 rfl ?_
  refine a_aload_n hX dL_law_513 rfl 0 rfl rfl ?_
  refine a_iload_n hX dL_law_514 rfl 3 rfl rfl ?_
  refine a_iconst (v := 2) hX dL_law_515 (by decide) rfl ?_
  refine a_iadd hX dL_law_516 rfl ?_
  refine a_sld hX hE hin.2.2.1 dL_law_517 rfl ?_
  refine a_LM (q0 := 0) (rest := [.long (r)]) hX hE.1 (ctX12_at (q := qM) hE.1 hM) K_L_63 ⟨rfl, rfl⟩ ⟨rfl, rfl, by decide, by decide⟩ ⟨by show k ≤ 600000; omega, by show n ≤ 7302250; omega⟩ (Nat.le_of_ble_eq_true rfl) dL_law_518 rfl rfl ?_
  refine a_lcmp_eq (tgt := 1511) (ft := some ()) (ff := none) (r := some ()) hX dL_law_521 rfl dL_law_522 rfl rfl (if_pos rfl) (fun _ => ?_) (fun h => by cases h)
  refine a_wid (k2 := k + 2) (n2 := n + 162) (by omega) (by omega) ?_
  exact ih qC ts uC' uM' hR' rfl
theorem lc_9 {Rel : List Tx → St → St → Prop} (TA : TAll Rel) {X : Cx} {V : Vx} {g : Nat → Nat} {b L : Nat} {xs : Nat → Int32} (hX : OK X code 4 RL room_1 V) (hE : EnvL V g b L xs) {qC qM : Nat → Nat} {ts : List Tx} {uC uM : St} (hR : Rel ts uC uM) {x3 : Int32} (hin : Ins x3 L) {k n : Nat} (hk : k + 2 ≤ 600000 ∧ n + 162 ≤ 7302250) (ih : ∀ (q' : Nat → Nat) (ts' : List Tx) (uC' uM' : St), Rel ts' uC' uM' → q' 11 = qC 11 → At X 4 (k + 2) (n + 162) (wC V q' ts' uC' ++ wM V qM uM') 1511 [(0, .ref b), (1, .ref (qC 11)), (2, .ref (qM 0)), (3, .int x3)] []) : At X 4 k n (wC V qC ts uC ++ wM V qM uM) 527 [(0, .ref b), (1, .ref (qC 11)), (2, .ref (qM 0)), (3, .int x3)] [] := by
  obtain ⟨r, uC', uM', hC, hM, hR'⟩ := tA_both TA ts uC uM (xs (Int32.toNatClampNeg (x3 + 1))) (xs (Int32.toNatClampNeg (x3 + 2))) (xs (Int32.toNatClampNeg (x3 + 3))) (xs (Int32.toNatClampNeg (x3 + 4))) hR
  refine a_aload_n hX dL_law_527 rfl 1 rfl rfl ?_
  refine a_aload_n hX dL_law_528 rfl 0 rfl rfl ?_
  refine a_iload_n hX dL_law_529 rfl 3 rfl rfl ?_
  refine a_iconst (v := 1) hX dL_law_530 (by decide) rfl ?_
  refine a_iadd hX dL_law_531 rfl ?_
  refine a_sld hX hE hin.2.1 dL_law_532 rfl ?_
  refine a_aload_n hX dL_law_533 rfl 0 rfl rfl ?_
  refine a_iload_n hX dL_law_534 rfl 3 rfl rfl ?_
  refine a_iconst (v := 2) hX dL_law_535 (by decide) rfl ?_
  refine a_iadd hX dL_law_536 rfl ?_
  refine a_sld hX hE hin.2.2.1 dL_law_537 rfl ?_
  refine a_aload_n hX dL_law_538 rfl 0 rfl rfl ?_
  refine a_iload_n hX dL_law_539 rfl 3 rfl rfl ?_
  refine a_iconst (v := 3) hX dL_law_540 (by decide) rfl ?_
  refine a_iadd hX dL_law_541 rfl ?_
  refine a_sld hX hE hin.2.2.2.1 dL_law_542 rfl ?_
  refine a_aload_n hX dL_law_543 rfl 0 rfl rfl ?_
  refine a_iload_n hX dL_law_544 rfl 3 rfl rfl ?_
  refine a_iconst (v := 4) hX dL_law_545 (by decide) rfl ?_
  refine a_iadd hX dL_law_546 rfl ?_
  refine a_sld hX hE hin.2.2.2.2.1 dL_law_547 rfl ?_
  refine a_LC (q0 := 0) (rest := []) hX hE.1 (ctX11_both (q := qC) hE.c hC) K_L_64 ⟨rfl, rfl⟩ ⟨rfl, rfl, by decide, by decide⟩ ⟨by show k ≤ 600000; omega, by show n ≤ 7302250; omega⟩ (Nat.le_of_ble_eq_true rfl) dL_law_548 rfl rfl ?_
  refine a_aload_n hX dL_law_551 rfl 2 rfl rfl ?_
  refine a_aload_n hX dL_law_552 rfl 0 rfl rfl ?_
  refine a_iload_n hX dL_law_553 rfl 3 rfl rfl ?_
  refine a_iconst (v := 1) hX dL_law_554 (by decide) rfl ?_
  refine a_iadd hX dL_law_555 rfl ?_
  refine a_sld hX hE hin.2.1 dL_law_556 rfl ?_
  refine a_aload_n hX dL_law_557 rfl 0 rfl rfl ?_
  refine a_iload_n hX dL_law_558 rfl 3 rfl rfl ?_
  refine a_iconst (v := 2) hX dL_law_559 (by decide) rfl ?_
  refine a_iadd hX dL_law_560 rfl ?_
  refine a_sld hX hE hin.2.2.1 dL_law_561 rfl ?_
  refine a_aload_n hX dL_law_562 rfl 0 rfl rfl ?_
  refine a_iload_n hX dL_law_563 rfl 3 rfl rfl ?_
  refine a_iconst (v := 3) hX dL_law_564 (by decide) rfl ?_
  refine a_iadd hX dL_law_565 rfl ?_
  refine a_sld hX hE hin.2.2.2.1 dL_law_566 rfl ?_
  refine a_aload_n hX dL_law_567 rfl 0 rfl rfl ?_
  refine a_iload_n hX dL_law_568 rfl 3 rfl rfl ?_
  refine a_iconst (v := 4) hX dL_law_569 (by decide) rfl ?_
  refine a_iadd hX dL_law_570 rfl ?_
  refine a_sld hX hE hin.2.2.2.2.1 dL_law_571 rfl ?_
  refine a_LM (q0 := 0) (rest := [.long (r)]) hX hE.1 (ctX12_both (q := qM) hE.1 hM) K_L_68 ⟨rfl, rfl⟩ ⟨rfl, rfl, by decide, by decide⟩ ⟨by show k ≤ 600000; omega, by show n ≤ 7302250; omega⟩ (Nat.le_of_ble_eq_true rfl) dL_law_572 rfl rfl ?_
  refine a_lcmp_eq (tgt := 1511) (ft := some ()) (ff := none) (r := some ()) hX dL_law_575 rfl dL_law_576 rfl rfl (if_pos rfl) (fun _ => ?_) (fun h => by cases h)
  refine a_wid (k2 := k + 2) (n2 := n + 162) (by omega) (by omega) ?_
  exact ih qC ts uC' uM' hR' rfl
theorem lc_10 {Rel : List Tx → St → St → Prop} (TA : TAll Rel) {X : Cx} {V : Vx} {g : Nat → Nat} {b L : Nat} {xs : Nat → Int32} (hX : OK X code 4 RL room_1 V) (hE : EnvL V g b L xs) {qC qM : Nat → Nat} {ts : List Tx} {uC uM : St} (hR : Rel ts uC uM) {x3 : Int32} (hin : Ins x3 L) {k n : Nat} (hk : k + 2 ≤ 600000 ∧ n + 162 ≤ 7302250) (ih : ∀ (q' : Nat → Nat) (ts' : List Tx) (uC' uM' : St), Rel ts' uC' uM' → q' 11 = qC 11 → At X 4 (k + 2) (n + 162) (wC V q' ts' uC' ++ wM V qM uM') 1511 [(0, .ref b), (1, .ref (qC 11)), (2, .ref (qM 0)), (3, .int x3)] []) : At X 4 k n (wC V qC ts uC ++ wM V qM uM) 581 [(0, .ref b), (1, .ref (qC 11)), (2, .ref (qM 0)), (3, .int x3)] [] := by
  obtain ⟨r, uC', uM', hC, hM, hR'⟩ := tA_history TA ts uC uM (xs (Int32.toNatClampNeg (x3 + 1))) (xs (Int32.toNatClampNeg (x3 + 2))) hR
  refine a_aload_n hX dL_law_581 rfl 1 rfl rfl ?_
  refine a_aload_n hX dL_law_582 rfl 0 rfl rfl ?_
  refine a_iload_n hX dL_law_583 rfl 3 rfl rfl ?_
  refine a_iconst (v := 1) hX dL_law_584 (by decide) rfl ?_
  refine a_iadd hX dL_law_585 rfl ?_
  refine a_sld hX hE hin.2.1 dL_law_586 rfl ?_
  refine a_aload_n hX dL_law_587 rfl 0 rfl rfl ?_
  refine a_iload_n hX dL_law_588 rfl 3 rfl rfl ?_
  refine a_iconst (v := 2) hX dL_law_589 (by decide) rfl ?_
  refine a_iadd hX dL_law_590 rfl ?_
  refine a_sld hX hE hin.2.2.1 dL_law_591 rfl ?_
  refine a_LC (q0 := 0) (rest := []) hX hE.1 (ctX11_history (q := qC) hE.c hC) K_L_69 ⟨rfl, rfl⟩ ⟨rfl, rfl, by decide, by decide⟩ ⟨by show k ≤ 600000; omega, by show n ≤ 7302250; omega⟩ (Nat.le_of_ble_eq_true rfl) dL_law_592 rfl rfl ?_
  refine a_aload_n hX dL_law_595 rfl 2 rfl rfl ?_
  refine a_aload_n hX dL_law_596 rfl 0 rfl rfl ?_
  refine a_iload_n hX dL_law_597 rfl 3 rfl rfl ?_
  refine a_iconst (v := 1) hX dL_law_598 (by decide) rfl ?_
  refine a_iadd hX dL_law_599 rfl ?_
  refine a_sld hX hE hin.2.1 dL_law_600 rfl ?_
  refine a_aload_n hX dL_law_601 rfl 0 rfl rfl ?_
  refine a_iload_n hX dL_law_602 rfl 3 rfl rfl ?_
  refine a_iconst (v := 2) hX dL_law_603 (by decide) rfl ?_
  refine a_iadd hX dL_law_604 rfl ?_
  refine a_sld hX hE hin.2.2.1 dL_law_605 rfl ?_
  refine a_LM (q0 := 0) (rest := [.int (r)]) hX hE.1 (ctX12_history (q := qM) hE.1 hM) K_L_72 ⟨rfl, rfl⟩ ⟨rfl, rfl, by decide, by decide⟩ ⟨by show k ≤ 600000; omega, by show n ≤ 7302250; omega⟩ (Nat.le_of_ble_eq_true rfl) dL_law_606 rfl rfl ?_
  refine a_icmp_eq (tgt := 1511) (ft := some ()) (ff := none) (r := some ()) hX dL_law_609 rfl rfl (if_pos rfl) (fun _ => ?_) (fun h => by cases h)
  refine a_wid (k2 := k + 2) (n2 := n + 162) (by omega) (by omega) ?_
  exact ih qC ts uC' uM' hR' rfl
theorem lc_11 {Rel : List Tx → St → St → Prop} (TA : TAll Rel) {X : Cx} {V : Vx} {g : Nat → Nat} {b L : Nat} {xs : Nat → Int32} (hX : OK X code 4 RL room_1 V) (hE : EnvL V g b L xs) {qC qM : Nat → Nat} {ts : List Tx} {uC uM : St} (hR : Rel ts uC uM) {x3 : Int32} (hin : Ins x3 L) {k n : Nat} (hk : k + 2 ≤ 600000 ∧ n + 162 ≤ 7302250) (ih : ∀ (q' : Nat → Nat) (ts' : List Tx) (uC' uM' : St), Rel ts' uC' uM' → q' 11 = qC 11 → At X 4 (k + 2) (n + 162) (wC V q' ts' uC' ++ wM V qM uM') 1511 [(0, .ref b), (1, .ref (qC 11)), (2, .ref (qM 0)), (3, .int x3)] []) : At X 4 k n (wC V qC ts uC ++ wM V qM uM) 614 [(0, .ref b), (1, .ref (qC 11)), (2, .ref (qM 0)), (3, .int x3)] [] := by
  obtain ⟨r, uC', uM', hC, hM, hR'⟩ := tA_feed TA ts uC uM (xs (Int32.toNatClampNeg (x3 + 1))) (((Int32.toInt64 (xs (Int32.toNatClampNeg (x3 + 2)))) <<< (Int32.toInt64 32 &&& 63)) ||| ((Int32.toInt64 (xs (Int32.toNatClampNeg (x3 + 3)))) &&& (4294967295))) hR
  refine a_aload_n hX dL_law_614 rfl 1 rfl rfl ?_
  refine a_aload_n hX dL_law_615 rfl 0 rfl rfl ?_
  refine a_iload_n hX dL_law_616 rfl 3 rfl rfl ?_
  refine a_iconst (v := 1) hX dL_law_617 (by decide) rfl ?_
  refine a_iadd hX dL_law_618 rfl ?_
  refine a_sld hX hE hin.2.1 dL_law_619 rfl ?_
  refine a_aload_n hX dL_law_620 rfl 0 rfl rfl ?_
  refine a_iload_n hX dL_law_621 rfl 3 rfl rfl ?_
  refine a_iconst (v := 2) hX dL_law_622 (by decide) rfl ?_
  refine a_iadd hX dL_law_623 rfl ?_
  refine a_sld hX hE hin.2.2.1 dL_law_624 rfl ?_
  refine a_i2l hX dL_law_625 rfl ?_
  refine a_bipush (v := 32) hX dL_law_626 (by decide) rfl ?_
  refine a_lshl hX dL_law_628 rfl ?_
  refine a_aload_n hX dL_law_629 rfl 0 rfl rfl ?_
  refine a_iload_n hX dL_law_630 rfl 3 rfl rfl ?_
  refine a_iconst (v := 3) hX dL_law_631 (by decide) rfl ?_
  refine a_iadd hX dL_law_632 rfl ?_
  refine a_sld hX hE hin.2.2.2.1 dL_law_633 rfl ?_
  refine a_i2l hX dL_law_634 rfl ?_
  refine a_ldc2 hX dL_law_635 N_L_73 rfl ?_
  refine a_land hX dL_law_638 rfl ?_
  refine a_lor hX dL_law_639 rfl ?_
  refine a_LC (q0 := 0) (rest := []) hX hE.1 (ctX11_feed (q := qC) hE.c hC) K_L_75 ⟨rfl, rfl⟩ ⟨rfl, rfl, by decide, by decide⟩ ⟨by show k ≤ 600000; omega, by show n ≤ 7302250; omega⟩ (Nat.le_of_ble_eq_true rfl) dL_law_640 rfl rfl ?_
  refine a_aload_n hX dL_law_643 rfl 2 rfl rfl ?_
  refine a_aload_n hX dL_law_644 rfl 0 rfl rfl ?_
  refine a_iload_n hX dL_law_645 rfl 3 rfl rfl ?_
  refine a_iconst (v := 1) hX dL_law_646 (by decide) rfl ?_
  refine a_iadd hX dL_law_647 rfl ?_
  refine a_sld hX hE hin.2.1 dL_law_648 rfl ?_
  refine a_aload_n hX dL_law_649 rfl 0 rfl rfl ?_
  refine a_iload_n hX dL_law_650 rfl 3 rfl rfl ?_
  refine a_iconst (v := 2) hX dL_law_651 (by decide) rfl ?_
  refine a_iadd hX dL_law_652 rfl ?_
  refine a_sld hX hE hin.2.2.1 dL_law_653 rfl ?_
  refine a_i2l hX dL_law_654 rfl ?_
  refine a_bipush (v := 32) hX dL_law_655 (by decide) rfl ?_
  refine a_lshl hX dL_law_657 rfl ?_
  refine a_aload_n hX dL_law_658 rfl 0 rfl rfl ?_
  refine a_iload_n hX dL_law_659 rfl 3 rfl rfl ?_
  refine a_iconst (v := 3) hX dL_law_660 (by decide) rfl ?_
  refine a_iadd hX dL_law_661 rfl ?_
  refine a_sld hX hE hin.2.2.2.1 dL_law_662 rfl ?_
  refine a_i2l hX dL_law_663 rfl ?_
  refine a_ldc2 hX dL_law_664 N_L_73 rfl ?_
  refine a_land hX dL_law_667 rfl ?_
  refine a_lor hX dL_law_668 rfl ?_
  refine a_LM (q0 := 0) (rest := [.int (r)]) hX hE.1 (ctX12_feed (q := qM) hE.1 hM) K_L_79 ⟨rfl, rfl⟩ ⟨rfl, rfl, by decide, by decide⟩ ⟨by show k ≤ 600000; omega, by show n ≤ 7302250; omega⟩ (Nat.le_of_ble_eq_true rfl) dL_law_669 rfl rfl ?_
  refine a_icmp_eq (tgt := 1511) (ft := some ()) (ff := none) (r := some ()) hX dL_law_672 rfl rfl (if_pos rfl) (fun _ => ?_) (fun h => by cases h)
  refine a_wid (k2 := k + 2) (n2 := n + 162) (by omega) (by omega) ?_
  exact ih qC ts uC' uM' hR' rfl
theorem lc_12 {Rel : List Tx → St → St → Prop} (TA : TAll Rel) {X : Cx} {V : Vx} {g : Nat → Nat} {b L : Nat} {xs : Nat → Int32} (hX : OK X code 4 RL room_1 V) (hE : EnvL V g b L xs) {qC qM : Nat → Nat} {ts : List Tx} {uC uM : St} (hR : Rel ts uC uM) {x3 : Int32} (hin : Ins x3 L) {k n : Nat} (hk : k + 2 ≤ 600000 ∧ n + 162 ≤ 7302250) (ih : ∀ (q' : Nat → Nat) (ts' : List Tx) (uC' uM' : St), Rel ts' uC' uM' → q' 11 = qC 11 → At X 4 (k + 2) (n + 162) (wC V q' ts' uC' ++ wM V qM uM') 1511 [(0, .ref b), (1, .ref (qC 11)), (2, .ref (qM 0)), (3, .int x3)] []) : At X 4 k n (wC V qC ts uC ++ wM V qM uM) 677 [(0, .ref b), (1, .ref (qC 11)), (2, .ref (qM 0)), (3, .int x3)] [] := by
  have hT := tA_text TA ts uC uM hR
  refine a_aload_n hX dL_law_677 rfl 1 rfl rfl ?_
  refine a_callV (q0 := 0) (As := []) (rest := []) hX hE.1 Sub.left (ctX11_text (q := qC) hE.c hT.1.1 hT.1.2.1 hT.1.2.2) K_L_80 ⟨rfl, rfl⟩ ⟨rfl, rfl, by decide, by decide⟩ ⟨by show k + 2 ≤ 600000; omega, by show n + 162 ≤ 7302250; omega⟩ (Nat.le_of_ble_eq_true rfl) dL_law_678 rfl rfl (fun rv w1 hRt => ?_)
  obtain ⟨r, q', ts', uC', rfl, hq', rfl, hTR⟩ := hRt
  obtain ⟨uM', hM, hR'⟩ := hT.2 r ts' uC' hTR
  refine a_ws (w2 := wC V q' ts' uC' ++ wM V qM uM) (st2 := [.int r]) rfl rfl ?_
  refine a_aload_n hX dL_law_681 rfl 2 rfl rfl ?_
  refine a_LM (q0 := 0) (rest := [.int (r)]) hX hE.1 (ctX12_text (q := qM) hE.1 hM) K_L_84 ⟨rfl, rfl⟩ ⟨rfl, rfl, by decide, by decide⟩ ⟨by show k + 2 ≤ 600000; omega, by show n + 162 ≤ 7302250; omega⟩ (Nat.le_of_ble_eq_true rfl) dL_law_682 rfl rfl ?_
  refine a_icmp_eq (tgt := 1511) (ft := some ()) (ff := none) (r := some ()) hX dL_law_685 rfl rfl (if_pos rfl) (fun _ => ?_) (fun h => by cases h)
  exact ih q' ts' uC' uM' hR' (hq' 11 (by decide))
theorem lc_13 {Rel : List Tx → St → St → Prop} (TA : TAll Rel) {X : Cx} {V : Vx} {g : Nat → Nat} {b L : Nat} {xs : Nat → Int32} (hX : OK X code 4 RL room_1 V) (hE : EnvL V g b L xs) {qC qM : Nat → Nat} {ts : List Tx} {uC uM : St} (hR : Rel ts uC uM) {x3 : Int32} (hin : Ins x3 L) {k n : Nat} (hk : k + 2 ≤ 600000 ∧ n + 162 ≤ 7302250) (ih : ∀ (q' : Nat → Nat) (ts' : List Tx) (uC' uM' : St), Rel ts' uC' uM' → q' 11 = qC 11 → At X 4 (k + 2) (n + 162) (wC V q' ts' uC' ++ wM V qM uM') 1511 [(0, .ref b), (1, .ref (qC 11)), (2, .ref (qM 0)), (3, .int x3)] []) : At X 4 k n (wC V qC ts uC ++ wM V qM uM) 690 [(0, .ref b), (1, .ref (qC 11)), (2, .ref (qM 0)), (3, .int x3)] [] := by
  obtain ⟨r, uC', uM', hC, hM, hR'⟩ := tA_law TA ts uC uM (xs (Int32.toNatClampNeg (x3 + 1))) (xs (Int32.toNatClampNeg (x3 + 2))) (xs (Int32.toNatClampNeg (x3 + 3))) hR
  refine a_aload_n hX dL_law_690 rfl 1 rfl rfl ?_
  refine a_aload_n hX dL_law_691 rfl 0 rfl rfl ?_
  refine a_iload_n hX dL_law_692 rfl 3 rfl rfl ?_
  refine a_iconst (v := 1) hX dL_law_693 (by decide) rfl ?_
  refine a_iadd hX dL_law_694 rfl ?_
  refine a_sld hX hE hin.2.1 dL_law_695 rfl ?_
  refine a_aload_n hX dL_law_696 rfl 0 rfl rfl ?_
  refine a_iload_n hX dL_law_697 rfl 3 rfl rfl ?_
  refine a_iconst (v := 2) hX dL_law_698 (by decide) rfl ?_
  refine a_iadd hX dL_law_699 rfl ?_
  refine a_sld hX hE hin.2.2.1 dL_law_700 rfl ?_
  refine a_aload_n hX dL_law_701 rfl 0 rfl rfl ?_
  refine a_iload_n hX dL_law_702 rfl 3 rfl rfl ?_
  refine a_iconst (v := 3) hX dL_law_703 (by decide) rfl ?_
  refine a_iadd hX dL_law_704 rfl ?_
  refine a_sld hX hE hin.2.2.2.1 dL_law_705 rfl ?_
  refine a_LC (q0 := 0) (rest := []) hX hE.1 (ctX11_law (q := qC) hE.c hC) K_L_85 ⟨rfl, rfl⟩ ⟨rfl, rfl, by decide, by decide⟩ ⟨by show k ≤ 600000; omega, by show n ≤ 7302250; omega⟩ (Nat.le_of_ble_eq_true rfl) dL_law_706 rfl rfl ?_
  refine a_aload_n hX dL_law_709 rfl 2 rfl rfl ?_
  refine a_aload_n hX dL_law_710 rfl 0 rfl rfl ?_
  refine a_iload_n hX dL_law_711 rfl 3 rfl rfl ?_
  refine a_iconst (v := 1) hX dL_law_712 (by decide) rfl ?_
  refine a_iadd hX dL_law_713 rfl ?_
  refine a_sld hX hE hin.2.1 dL_law_714 rfl ?_
  refine a_aload_n hX dL_law_715 rfl 0 rfl rfl ?_
  refine a_iload_n hX dL_law_716 rfl 3 rfl rfl ?_
  refine a_iconst (v := 2) hX dL_law_717 (by decide) rfl ?_
  refine a_iadd hX dL_law_718 rfl ?_
  refine a_sld hX hE hin.2.2.1 dL_law_719 rfl ?_
  refine a_aload_n hX dL_law_720 rfl 0 rfl rfl ?_
  refine a_iload_n hX dL_law_721 rfl 3 rfl rfl ?_
  refine a_iconst (v := 3) hX dL_law_722 (by decide) rfl ?_
  refine a_iadd hX dL_law_723 rfl ?_
  refine a_sld hX hE hin.2.2.2.1 dL_law_724 rfl ?_
  refine a_LM (q0 := 0) (rest := [.int (r)]) hX hE.1 (ctX12_law (q := qM) hE.1 hM) K_L_88 ⟨rfl, rfl⟩ ⟨rfl, rfl, by decide, by decide⟩ ⟨by show k ≤ 600000; omega, by show n ≤ 7302250; omega⟩ (Nat.le_of_ble_eq_true rfl) dL_law_725 rfl rfl ?_
  refine a_icmp_eq (tgt := 1511) (ft := some ()) (ff := none) (r := some ()) hX dL_law_728 rfl rfl (if_pos rfl) (fun _ => ?_) (fun h => by cases h)
  refine a_wid (k2 := k + 2) (n2 := n + 162) (by omega) (by omega) ?_
  exact ih qC ts uC' uM' hR' rfl
theorem lc_14 {Rel : List Tx → St → St → Prop} (TA : TAll Rel) {X : Cx} {V : Vx} {g : Nat → Nat} {b L : Nat} {xs : Nat → Int32} (hX : OK X code 4 RL room_1 V) (hE : EnvL V g b L xs) {qC qM : Nat → Nat} {ts : List Tx} {uC uM : St} (hR : Rel ts uC uM) {x3 : Int32} (hin : Ins x3 L) {k n : Nat} (hk : k + 2 ≤ 600000 ∧ n + 162 ≤ 7302250) (ih : ∀ (q' : Nat → Nat) (ts' : List Tx) (uC' uM' : St), Rel ts' uC' uM' → q' 11 = qC 11 → At X 4 (k + 2) (n + 162) (wC V q' ts' uC' ++ wM V qM uM') 1511 [(0, .ref b), (1, .ref (qC 11)), (2, .ref (qM 0)), (3, .int x3)] []) : At X 4 k n (wC V qC ts uC ++ wM V qM uM) 733 [(0, .ref b), (1, .ref (qC 11)), (2, .ref (qM 0)), (3, .int x3)] [] := by
  obtain ⟨r, hC, hM, hR'⟩ := tA_lawOf TA ts uC uM (xs (Int32.toNatClampNeg (x3 + 1))) (xs (Int32.toNatClampNeg (x3 + 2))) hR
  refine a_aload_n hX dL_law_733 rfl 1 rfl rfl ?_
  refine a_aload_n hX dL_law_734 rfl 0 rfl rfl ?_
  refine a_iload_n hX dL_law_735 rfl 3 rfl rfl ?_
  refine a_iconst (v := 1) hX dL_law_736 (by decide) rfl ?_
  refine a_iadd hX dL_law_737 rfl ?_
  refine a_sld hX hE hin.2.1 dL_law_738 rfl ?_
  refine a_aload_n hX dL_law_739 rfl 0 rfl rfl ?_
  refine a_iload_n hX dL_law_740 rfl 3 rfl rfl ?_
  refine a_iconst (v := 2) hX dL_law_741 (by decide) rfl ?_
  refine a_iadd hX dL_law_742 rfl ?_
  refine a_sld hX hE hin.2.2.1 dL_law_743 rfl ?_
  refine a_LC (q0 := 0) (rest := []) hX hE.1 (ctX11_lawOf (q := qC) hE.c hC) K_L_89 ⟨rfl, rfl⟩ ⟨rfl, rfl, by decide, by decide⟩ ⟨by show k ≤ 600000; omega, by show n ≤ 7302250; omega⟩ (Nat.le_of_ble_eq_true rfl) dL_law_744 rfl rfl ?_
  refine a_aload_n hX dL_law_747 rfl 2 rfl rfl ?_
  refine a_aload_n hX dL_law_748 rfl 0 rfl rfl ?_
  refine a_iload_n hX dL_law_749 rfl 3 rfl rfl ?_
  refine a_iconst (v := 1) hX dL_law_750 (by decide) rfl ?_
  refine a_iadd hX dL_law_751 rfl ?_
  refine a_sld hX hE hin.2.1 dL_law_752 rfl ?_
  refine a_aload_n hX dL_law_753 rfl 0 rfl rfl ?_
  refine a_iload_n hX dL_law_754 rfl 3 rfl rfl ?_
  refine a_iconst (v := 2) hX dL_law_755 (by decide) rfl ?_
  refine a_iadd hX dL_law_756 rfl ?_
  refine a_sld hX hE hin.2.2.1 dL_law_757 rfl ?_
  refine a_LM (q0 := 0) (rest := [.int (r)]) hX hE.1 (ctX12_lawOf (q := qM) hE.1 hM) K_L_92 ⟨rfl, rfl⟩ ⟨rfl, rfl, by decide, by decide⟩ ⟨by show k ≤ 600000; omega, by show n ≤ 7302250; omega⟩ (Nat.le_of_ble_eq_true rfl) dL_law_758 rfl rfl ?_
  refine a_icmp_eq (tgt := 1511) (ft := some ()) (ff := none) (r := some ()) hX dL_law_761 rfl rfl (if_pos rfl) (fun _ => ?_) (fun h => by cases h)
  refine a_wid (k2 := k + 2) (n2 := n + 162) (by omega) (by omega) ?_
  exact ih qC ts uC uM hR' rfl
theorem lc_15 {Rel : List Tx → St → St → Prop} (TA : TAll Rel) {X : Cx} {V : Vx} {g : Nat → Nat} {b L : Nat} {xs : Nat → Int32} (hX : OK X code 4 RL room_1 V) (hE : EnvL V g b L xs) {qC qM : Nat → Nat} {ts : List Tx} {uC uM : St} (hR : Rel ts uC uM) {x3 : Int32} (hin : Ins x3 L) {k n : Nat} (hk : k + 2 ≤ 600000 ∧ n + 162 ≤ 7302250) (ih : ∀ (q' : Nat → Nat) (ts' : List Tx) (uC' uM' : St), Rel ts' uC' uM' → q' 11 = qC 11 → At X 4 (k + 2) (n + 162) (wC V q' ts' uC' ++ wM V qM uM') 1511 [(0, .ref b), (1, .ref (qC 11)), (2, .ref (qM 0)), (3, .int x3)] []) : At X 4 k n (wC V qC ts uC ++ wM V qM uM) 766 [(0, .ref b), (1, .ref (qC 11)), (2, .ref (qM 0)), (3, .int x3)] [] := by
  obtain ⟨r, uC', uM', hC, hM, hR'⟩ := tA_says TA ts uC uM (xs (Int32.toNatClampNeg (x3 + 1))) (xs (Int32.toNatClampNeg (x3 + 2))) (xs (Int32.toNatClampNeg (x3 + 3))) (xs (Int32.toNatClampNeg (x3 + 4))) hR
  refine a_aload_n hX dL_law_766 rfl 1 rfl rfl ?_
  refine a_aload_n hX dL_law_767 rfl 0 rfl rfl ?_
  refine a_iload_n hX dL_law_768 rfl 3 rfl rfl ?_
  refine a_iconst (v := 1) hX dL_law_769 (by decide) rfl ?_
  refine a_iadd hX dL_law_770 rfl ?_
  refine a_sld hX hE hin.2.1 dL_law_771 rfl ?_
  refine a_aload_n hX dL_law_772 rfl 0 rfl rfl ?_
  refine a_iload_n hX dL_law_773 rfl 3 rfl rfl ?_
  refine a_iconst (v := 2) hX dL_law_774 (by decide) rfl ?_
  refine a_iadd hX dL_law_775 rfl ?_
  refine a_sld hX hE hin.2.2.1 dL_law_776 rfl ?_
  refine a_aload_n hX dL_law_777 rfl 0 rfl rfl ?_
  refine a_iload_n hX dL_law_778 rfl 3 rfl rfl ?_
  refine a_iconst (v := 3) hX dL_law_779 (by decide) rfl ?_
  refine a_iadd hX dL_law_780 rfl ?_
  refine a_sld hX hE hin.2.2.2.1 dL_law_781 rfl ?_
  refine a_aload_n hX dL_law_782 rfl 0 rfl rfl ?_
  refine a_iload_n hX dL_law_783 rfl 3 rfl rfl ?_
  refine a_iconst (v := 4) hX dL_law_784 (by decide) rfl ?_
  refine a_iadd hX dL_law_785 rfl ?_
  refine a_sld hX hE hin.2.2.2.2.1 dL_law_786 rfl ?_
  refine a_LC (q0 := 0) (rest := []) hX hE.1 (ctX11_says (q := qC) hE.c hC) K_L_93 ⟨rfl, rfl⟩ ⟨rfl, rfl, by decide, by decide⟩ ⟨by show k ≤ 600000; omega, by show n ≤ 7302250; omega⟩ (Nat.le_of_ble_eq_true rfl) dL_law_787 rfl rfl ?_
  refine a_aload_n hX dL_law_790 rfl 2 rfl rfl ?_
  refine a_aload_n hX dL_law_791 rfl 0 rfl rfl ?_
  refine a_iload_n hX dL_law_792 rfl 3 rfl rfl ?_
  refine a_iconst (v := 1) hX dL_law_793 (by decide) rfl ?_
  refine a_iadd hX dL_law_794 rfl ?_
  refine a_sld hX hE hin.2.1 dL_law_795 rfl ?_
  refine a_aload_n hX dL_law_796 rfl 0 rfl rfl ?_
  refine a_iload_n hX dL_law_797 rfl 3 rfl rfl ?_
  refine a_iconst (v := 2) hX dL_law_798 (by decide) rfl ?_
  refine a_iadd hX dL_law_799 rfl ?_
  refine a_sld hX hE hin.2.2.1 dL_law_800 rfl ?_
  refine a_aload_n hX dL_law_801 rfl 0 rfl rfl ?_
  refine a_iload_n hX dL_law_802 rfl 3 rfl rfl ?_
  refine a_iconst (v := 3) hX dL_law_803 (by decide) rfl ?_
  refine a_iadd hX dL_law_804 rfl ?_
  refine a_sld hX hE hin.2.2.2.1 dL_law_805 rfl ?_
  refine a_aload_n hX dL_law_806 rfl 0 rfl rfl ?_
  refine a_iload_n hX dL_law_807 rfl 3 rfl rfl ?_
  refine a_iconst (v := 4) hX dL_law_808 (by decide) rfl ?_
  refine a_iadd hX dL_law_809 rfl ?_
  refine a_sld hX hE hin.2.2.2.2.1 dL_law_810 rfl ?_
  refine a_LM (q0 := 0) (rest := [.long (r)]) hX hE.1 (ctX12_says (q := qM) hE.1 hM) K_L_96 ⟨rfl, rfl⟩ ⟨rfl, rfl, by decide, by decide⟩ ⟨by show k ≤ 600000; omega, by show n ≤ 7302250; omega⟩ (Nat.le_of_ble_eq_true rfl) dL_law_811 rfl rfl ?_
  refine a_lcmp_eq (tgt := 1511) (ft := some ()) (ff := none) (r := some ()) hX dL_law_814 rfl dL_law_815 rfl rfl (if_pos rfl) (fun _ => ?_) (fun h => by cases h)
  refine a_wid (k2 := k + 2) (n2 := n + 162) (by omega) (by omega) ?_
  exact ih qC ts uC' uM' hR' rfl
theorem lc_16 {Rel : List Tx → St → St → Prop} (TA : TAll Rel) {X : Cx} {V : Vx} {g : Nat → Nat} {b L : Nat} {xs : Nat → Int32} (hX : OK X code 4 RL room_1 V) (hE : EnvL V g b L xs) {qC qM : Nat → Nat} {ts : List Tx} {uC uM : St} (hR : Rel ts uC uM) {x3 : Int32} (hin : Ins x3 L) {k n : Nat} (hk : k + 2 ≤ 600000 ∧ n + 162 ≤ 7302250) (ih : ∀ (q' : Nat → Nat) (ts' : List Tx) (uC' uM' : St), Rel ts' uC' uM' → q' 11 = qC 11 → At X 4 (k + 2) (n + 162) (wC V q' ts' uC' ++ wM V qM uM') 1511 [(0, .ref b), (1, .ref (qC 11)), (2, .ref (qM 0)), (3, .int x3)] []) : At X 4 k n (wC V qC ts uC ++ wM V qM uM) 820 [(0, .ref b), (1, .ref (qC 11)), (2, .ref (qM 0)), (3, .int x3)] [] := by
  obtain ⟨r, uC', uM', hC, hM, hR'⟩ := tA_given TA ts uC uM (xs (Int32.toNatClampNeg (x3 + 1))) hR
  refine a_aload_n hX dL_law_820 rfl 1 rfl rfl ?_
  refine a_aload_n hX dL_law_821 rfl 0 rfl rfl ?_
  refine a_iload_n hX dL_law_822 rfl 3 rfl rfl ?_
  refine a_iconst (v := 1) hX dL_law_823 (by decide) rfl ?_
  refine a_iadd hX dL_law_824 rfl ?_
  refine a_sld hX hE hin.2.1 dL_law_825 rfl ?_
  refine a_LC (q0 := 0) (rest := []) hX hE.1 (ctX11_given (q := qC) hE.c hC) K_L_97 ⟨rfl, rfl⟩ ⟨rfl, rfl, by decide, by decide⟩ ⟨by show k ≤ 600000; omega, by show n ≤ 7302250; omega⟩ (Nat.le_of_ble_eq_true rfl) dL_law_826 rfl rfl ?_
  refine a_aload_n hX dL_law_829 rfl 2 rfl rfl ?_
  refine a_aload_n hX dL_law_830 rfl 0 rfl rfl ?_
  refine a_iload_n hX dL_law_831 rfl 3 rfl rfl ?_
  refine a_iconst (v := 1) hX dL_law_832 (by decide) rfl ?_
  refine a_iadd hX dL_law_833 rfl ?_
  refine a_sld hX hE hin.2.1 dL_law_834 rfl ?_
  refine a_LM (q0 := 0) (rest := [.long (r)]) hX hE.1 (ctX12_given (q := qM) hE.1 hM) K_L_101 ⟨rfl, rfl⟩ ⟨rfl, rfl, by decide, by decide⟩ ⟨by show k ≤ 600000; omega, by show n ≤ 7302250; omega⟩ (Nat.le_of_ble_eq_true rfl) dL_law_835 rfl rfl ?_
  refine a_lcmp_eq (tgt := 1511) (ft := some ()) (ff := none) (r := some ()) hX dL_law_838 rfl dL_law_839 rfl rfl (if_pos rfl) (fun _ => ?_) (fun h => by cases h)
  refine a_wid (k2 := k + 2) (n2 := n + 162) (by omega) (by omega) ?_
  exact ih qC ts uC' uM' hR' rfl
theorem lc_17 {Rel : List Tx → St → St → Prop} (TA : TAll Rel) {X : Cx} {V : Vx} {g : Nat → Nat} {b L : Nat} {xs : Nat → Int32} (hX : OK X code 4 RL room_1 V) (hE : EnvL V g b L xs) {qC qM : Nat → Nat} {ts : List Tx} {uC uM : St} (hR : Rel ts uC uM) {x3 : Int32} (hin : Ins x3 L) {k n : Nat} (hk : k + 2 ≤ 600000 ∧ n + 162 ≤ 7302250) (ih : ∀ (q' : Nat → Nat) (ts' : List Tx) (uC' uM' : St), Rel ts' uC' uM' → q' 11 = qC 11 → At X 4 (k + 2) (n + 162) (wC V q' ts' uC' ++ wM V qM uM') 1511 [(0, .ref b), (1, .ref (qC 11)), (2, .ref (qM 0)), (3, .int x3)] []) : At X 4 k n (wC V qC ts uC ++ wM V qM uM) 844 [(0, .ref b), (1, .ref (qC 11)), (2, .ref (qM 0)), (3, .int x3)] [] := by
  obtain ⟨r, uC', uM', hC, hM, hR'⟩ := tA_claim TA ts uC uM (xs (Int32.toNatClampNeg (x3 + 1))) hR
  refine a_aload_n hX dL_law_844 rfl 1 rfl rfl ?_
  refine a_aload_n hX dL_law_845 rfl 0 rfl rfl ?_
  refine a_iload_n hX dL_law_846 rfl 3 rfl rfl ?_
  refine a_iconst (v := 1) hX dL_law_847 (by decide) rfl ?_
  refine a_iadd hX dL_law_848 rfl ?_
  refine a_sld hX hE hin.2.1 dL_law_849 rfl ?_
  refine a_LC (q0 := 0) (rest := []) hX hE.1 (ctX11_claim (q := qC) hE.c hC) K_L_102 ⟨rfl, rfl⟩ ⟨rfl, rfl, by decide, by decide⟩ ⟨by show k ≤ 600000; omega, by show n ≤ 7302250; omega⟩ (Nat.le_of_ble_eq_true rfl) dL_law_850 rfl rfl ?_
  refine a_aload_n hX dL_law_853 rfl 2 rfl rfl ?_
  refine a_aload_n hX dL_law_854 rfl 0 rfl rfl ?_
  refine a_iload_n hX dL_law_855 rfl 3 rfl rfl ?_
  refine a_iconst (v := 1) hX dL_law_856 (by decide) rfl ?_
  refine a_iadd hX dL_law_857 rfl ?_
  refine a_sld hX hE hin.2.1 dL_law_858 rfl ?_
  refine a_LM (q0 := 0) (rest := [.long (r)]) hX hE.1 (ctX12_claim (q := qM) hE.1 hM) K_L_105 ⟨rfl, rfl⟩ ⟨rfl, rfl, by decide, by decide⟩ ⟨by show k ≤ 600000; omega, by show n ≤ 7302250; omega⟩ (Nat.le_of_ble_eq_true rfl) dL_law_859 rfl rfl ?_
  refine a_lcmp_eq (tgt := 1511) (ft := some ()) (ff := none) (r := some ()) hX dL_law_862 rfl dL_law_863 rfl rfl (if_pos rfl) (fun _ => ?_) (fun h => by cases h)
  refine a_wid (k2 := k + 2) (n2 := n + 162) (by omega) (by omega) ?_
  exact ih qC ts uC' uM' hR' rfl
theorem lc_18 {Rel : List Tx → St → St → Prop} (TA : TAll Rel) {X : Cx} {V : Vx} {g : Nat → Nat} {b L : Nat} {xs : Nat → Int32} (hX : OK X code 4 RL room_1 V) (hE : EnvL V g b L xs) {qC qM : Nat → Nat} {ts : List Tx} {uC uM : St} (hR : Rel ts uC uM) {x3 : Int32} (hin : Ins x3 L) {k n : Nat} (hk : k + 2 ≤ 600000 ∧ n + 162 ≤ 7302250) (ih : ∀ (q' : Nat → Nat) (ts' : List Tx) (uC' uM' : St), Rel ts' uC' uM' → q' 11 = qC 11 → At X 4 (k + 2) (n + 162) (wC V q' ts' uC' ++ wM V qM uM') 1511 [(0, .ref b), (1, .ref (qC 11)), (2, .ref (qM 0)), (3, .int x3)] []) : At X 4 k n (wC V qC ts uC ++ wM V qM uM) 868 [(0, .ref b), (1, .ref (qC 11)), (2, .ref (qM 0)), (3, .int x3)] [] := by
  obtain ⟨r, uC', uM', hC, hM, hR'⟩ := tA_judge TA ts uC uM  hR
  refine a_aload_n hX dL_law_868 rfl 1 rfl rfl ?_
  refine a_LC (q0 := 0) (rest := []) hX hE.1 (ctX11_judge (q := qC) hE.c hC) K_L_106 ⟨rfl, rfl⟩ ⟨rfl, rfl, by decide, by decide⟩ ⟨by show k ≤ 600000; omega, by show n ≤ 7302250; omega⟩ (Nat.le_of_ble_eq_true rfl) dL_law_869 rfl rfl ?_
  refine a_aload_n hX dL_law_872 rfl 2 rfl rfl ?_
  refine a_LM (q0 := 0) (rest := [.int (r)]) hX hE.1 (ctX12_judge (q := qM) hE.1 hM) K_L_109 ⟨rfl, rfl⟩ ⟨rfl, rfl, by decide, by decide⟩ ⟨by show k ≤ 600000; omega, by show n ≤ 7302250; omega⟩ (Nat.le_of_ble_eq_true rfl) dL_law_873 rfl rfl ?_
  refine a_icmp_eq (tgt := 1511) (ft := some ()) (ff := none) (r := some ()) hX dL_law_876 rfl rfl (if_pos rfl) (fun _ => ?_) (fun h => by cases h)
  refine a_wid (k2 := k + 2) (n2 := n + 162) (by omega) (by omega) ?_
  exact ih qC ts uC' uM' hR' rfl
theorem lc_19 {Rel : List Tx → St → St → Prop} (TA : TAll Rel) {X : Cx} {V : Vx} {g : Nat → Nat} {b L : Nat} {xs : Nat → Int32} (hX : OK X code 4 RL room_1 V) (hE : EnvL V g b L xs) {qC qM : Nat → Nat} {ts : List Tx} {uC uM : St} (hR : Rel ts uC uM) {x3 : Int32} (hin : Ins x3 L) {k n : Nat} (hk : k + 2 ≤ 600000 ∧ n + 162 ≤ 7302250) (ih : ∀ (q' : Nat → Nat) (ts' : List Tx) (uC' uM' : St), Rel ts' uC' uM' → q' 11 = qC 11 → At X 4 (k + 2) (n + 162) (wC V q' ts' uC' ++ wM V qM uM') 1511 [(0, .ref b), (1, .ref (qC 11)), (2, .ref (qM 0)), (3, .int x3)] []) : At X 4 k n (wC V qC ts uC ++ wM V qM uM) 881 [(0, .ref b), (1, .ref (qC 11)), (2, .ref (qM 0)), (3, .int x3)] [] := by
  obtain ⟨r, hC, hM, hR'⟩ := tA_judged TA ts uC uM (xs (Int32.toNatClampNeg (x3 + 1))) (xs (Int32.toNatClampNeg (x3 + 2))) hR
  refine a_aload_n hX dL_law_881 rfl 1 rfl rfl ?_
  refine a_aload_n hX dL_law_882 rfl 0 rfl rfl ?_
  refine a_iload_n hX dL_law_883 rfl 3 rfl rfl ?_
  refine a_iconst (v := 1) hX dL_law_884 (by decide) rfl ?_
  refine a_iadd hX dL_law_885 rfl ?_
  refine a_sld hX hE hin.2.1 dL_law_886 rfl ?_
  refine a_aload_n hX dL_law_887 rfl 0 rfl rfl ?_
  refine a_iload_n hX dL_law_888 rfl 3 rfl rfl ?_
  refine a_iconst (v := 2) hX dL_law_889 (by decide) rfl ?_
  refine a_iadd hX dL_law_890 rfl ?_
  refine a_sld hX hE hin.2.2.1 dL_law_891 rfl ?_
  refine a_LC (q0 := 0) (rest := []) hX hE.1 (ctX11_judged (q := qC) hE.c hC) K_L_110 ⟨rfl, rfl⟩ ⟨rfl, rfl, by decide, by decide⟩ ⟨by show k ≤ 600000; omega, by show n ≤ 7302250; omega⟩ (Nat.le_of_ble_eq_true rfl) dL_law_892 rfl rfl ?_
  refine a_aload_n hX dL_law_895 rfl 2 rfl rfl ?_
  refine a_aload_n hX dL_law_896 rfl 0 rfl rfl ?_
  refine a_iload_n hX dL_law_897 rfl 3 rfl rfl ?_
  refine a_iconst (v := 1) hX dL_law_898 (by decide) rfl ?_
  refine a_iadd hX dL_law_899 rfl ?_
  refine a_sld hX hE hin.2.1 dL_law_900 rfl ?_
  refine a_aload_n hX dL_law_901 rfl 0 rfl rfl ?_
  refine a_iload_n hX dL_law_902 rfl 3 rfl rfl ?_
  refine a_iconst (v := 2) hX dL_law_903 (by decide) rfl ?_
  refine a_iadd hX dL_law_904 rfl ?_
  refine a_sld hX hE hin.2.2.1 dL_law_905 rfl ?_
  refine a_LM (q0 := 0) (rest := [.long (r)]) hX hE.1 (ctX12_judged (q := qM) hE.1 hM) K_L_113 ⟨rfl, rfl⟩ ⟨rfl, rfl, by decide, by decide⟩ ⟨by show k ≤ 600000; omega, by show n ≤ 7302250; omega⟩ (Nat.le_of_ble_eq_true rfl) dL_law_906 rfl rfl ?_
  refine a_lcmp_eq (tgt := 1511) (ft := some ()) (ff := none) (r := some ()) hX dL_law_909 rfl dL_law_910 rfl rfl (if_pos rfl) (fun _ => ?_) (fun h => by cases h)
  refine a_wid (k2 := k + 2) (n2 := n + 162) (by omega) (by omega) ?_
  exact ih qC ts uC uM hR' rfl
theorem lc_20 {Rel : List Tx → St → St → Prop} (TA : TAll Rel) {X : Cx} {V : Vx} {g : Nat → Nat} {b L : Nat} {xs : Nat → Int32} (hX : OK X code 4 RL room_1 V) (hE : EnvL V g b L xs) {qC qM : Nat → Nat} {ts : List Tx} {uC uM : St} (hR : Rel ts uC uM) {x3 : Int32} (hin : Ins x3 L) {k n : Nat} (hk : k + 2 ≤ 600000 ∧ n + 162 ≤ 7302250) (ih : ∀ (q' : Nat → Nat) (ts' : List Tx) (uC' uM' : St), Rel ts' uC' uM' → q' 11 = qC 11 → At X 4 (k + 2) (n + 162) (wC V q' ts' uC' ++ wM V qM uM') 1511 [(0, .ref b), (1, .ref (qC 11)), (2, .ref (qM 0)), (3, .int x3)] []) : At X 4 k n (wC V qC ts uC ++ wM V qM uM) 915 [(0, .ref b), (1, .ref (qC 11)), (2, .ref (qM 0)), (3, .int x3)] [] := by
  obtain ⟨r, uC', uM', hC, hM, hR'⟩ := tA_changed TA ts uC uM (xs (Int32.toNatClampNeg (x3 + 1))) hR
  refine a_aload_n hX dL_law_915 rfl 1 rfl rfl ?_
  refine a_aload_n hX dL_law_916 rfl 0 rfl rfl ?_
  refine a_iload_n hX dL_law_917 rfl 3 rfl rfl ?_
  refine a_iconst (v := 1) hX dL_law_918 (by decide) rfl ?_
  refine a_iadd hX dL_law_919 rfl ?_
  refine a_sld hX hE hin.2.1 dL_law_920 rfl ?_
  refine a_LC (q0 := 0) (rest := []) hX hE.1 (ctX11_changed (q := qC) hE.c hC) K_L_114 ⟨rfl, rfl⟩ ⟨rfl, rfl, by decide, by decide⟩ ⟨by show k ≤ 600000; omega, by show n ≤ 7302250; omega⟩ (Nat.le_of_ble_eq_true rfl) dL_law_921 rfl rfl ?_
  refine a_aload_n hX dL_law_924 rfl 2 rfl rfl ?_
  refine a_aload_n hX dL_law_925 rfl 0 rfl rfl ?_
  refine a_iload_n hX dL_law_926 rfl 3 rfl rfl ?_
  refine a_iconst (v := 1) hX dL_law_927 (by decide) rfl ?_
  refine a_iadd hX dL_law_928 rfl ?_
  refine a_sld hX hE hin.2.1 dL_law_929 rfl ?_
  refine a_LM (q0 := 0) (rest := [.int (r)]) hX hE.1 (ctX12_changed (q := qM) hE.1 hM) K_L_117 ⟨rfl, rfl⟩ ⟨rfl, rfl, by decide, by decide⟩ ⟨by show k ≤ 600000; omega, by show n ≤ 7302250; omega⟩ (Nat.le_of_ble_eq_true rfl) dL_law_930 rfl rfl ?_
  refine a_icmp_eq (tgt := 1511) (ft := some ()) (ff := none) (r := some ()) hX dL_law_933 rfl rfl (if_pos rfl) (fun _ => ?_) (fun h => by cases h)
  refine a_wid (k2 := k + 2) (n2 := n + 162) (by omega) (by omega) ?_
  exact ih qC ts uC' uM' hR' rfl
theorem lc_21 {Rel : List Tx → St → St → Prop} (TA : TAll Rel) {X : Cx} {V : Vx} {g : Nat → Nat} {b L : Nat} {xs : Nat → Int32} (hX : OK X code 4 RL room_1 V) (hE : EnvL V g b L xs) {qC qM : Nat → Nat} {ts : List Tx} {uC uM : St} (hR : Rel ts uC uM) {x3 : Int32} (hin : Ins x3 L) {k n : Nat} (hk : k + 2 ≤ 600000 ∧ n + 162 ≤ 7302250) (ih : ∀ (q' : Nat → Nat) (ts' : List Tx) (uC' uM' : St), Rel ts' uC' uM' → q' 11 = qC 11 → At X 4 (k + 2) (n + 162) (wC V q' ts' uC' ++ wM V qM uM') 1511 [(0, .ref b), (1, .ref (qC 11)), (2, .ref (qM 0)), (3, .int x3)] []) : At X 4 k n (wC V qC ts uC ++ wM V qM uM) 938 [(0, .ref b), (1, .ref (qC 11)), (2, .ref (qM 0)), (3, .int x3)] [] := by
  obtain ⟨r, uC', uM', hC, hM, hR'⟩ := tA_worst TA ts uC uM (xs (Int32.toNatClampNeg (x3 + 1))) (xs (Int32.toNatClampNeg (x3 + 2))) hR
  refine a_aload_n hX dL_law_938 rfl 1 rfl rfl ?_
  refine a_aload_n hX dL_law_939 rfl 0 rfl rfl ?_
  refine a_iload_n hX dL_law_940 rfl 3 rfl rfl ?_
  refine a_iconst (v := 1) hX dL_law_941 (by decide) rfl ?_
  refine a_iadd hX dL_law_942 rfl ?_
  refine a_sld hX hE hin.2.1 dL_law_943 rfl ?_
  refine a_aload_n hX dL_law_944 rfl 0 rfl rfl ?_
  refine a_iload_n hX dL_law_945 rfl 3 rfl rfl ?_
  refine a_iconst (v := 2) hX dL_law_946 (by decide) rfl ?_
  refine a_iadd hX dL_law_947 rfl ?_
  refine a_sld hX hE hin.2.2.1 dL_law_948 rfl ?_
  refine a_LC (q0 := 0) (rest := []) hX hE.1 (ctX11_worst (q := qC) hE.c hC) K_L_118 ⟨rfl, rfl⟩ ⟨rfl, rfl, by decide, by decide⟩ ⟨by show k ≤ 600000; omega, by show n ≤ 7302250; omega⟩ (Nat.le_of_ble_eq_true rfl) dL_law_949 rfl rfl ?_
  refine a_aload_n hX dL_law_952 rfl 2 rfl rfl ?_
  refine a_aload_n hX dL_law_953 rfl 0 rfl rfl ?_
  refine a_iload_n hX dL_law_954 rfl 3 rfl rfl ?_
  refine a_iconst (v := 1) hX dL_law_955 (by decide) rfl ?_
  refine a_iadd hX dL_law_956 rfl ?_
  refine a_sld hX hE hin.2.1 dL_law_957 rfl ?_
  refine a_aload_n hX dL_law_958 rfl 0 rfl rfl ?_
  refine a_iload_n hX dL_law_959 rfl 3 rfl rfl ?_
  refine a_iconst (v := 2) hX dL_law_960 (by decide) rfl ?_
  refine a_iadd hX dL_law_961 rfl ?_
  refine a_sld hX hE hin.2.2.1 dL_law_962 rfl ?_
  refine a_LM (q0 := 0) (rest := [.long (r)]) hX hE.1 (ctX12_worst (q := qM) hE.1 hM) K_L_121 ⟨rfl, rfl⟩ ⟨rfl, rfl, by decide, by decide⟩ ⟨by show k ≤ 600000; omega, by show n ≤ 7302250; omega⟩ (Nat.le_of_ble_eq_true rfl) dL_law_963 rfl rfl ?_
  refine a_lcmp_eq (tgt := 1511) (ft := some ()) (ff := none) (r := some ()) hX dL_law_966 rfl dL_law_967 rfl rfl (if_pos rfl) (fun _ => ?_) (fun h => by cases h)
  refine a_wid (k2 := k + 2) (n2 := n + 162) (by omega) (by omega) ?_
  exact ih qC ts uC' uM' hR' rfl
theorem lc_22 {Rel : List Tx → St → St → Prop} (TA : TAll Rel) {X : Cx} {V : Vx} {g : Nat → Nat} {b L : Nat} {xs : Nat → Int32} (hX : OK X code 4 RL room_1 V) (hE : EnvL V g b L xs) {qC qM : Nat → Nat} {ts : List Tx} {uC uM : St} (hR : Rel ts uC uM) {x3 : Int32} (hin : Ins x3 L) {k n : Nat} (hk : k + 2 ≤ 600000 ∧ n + 162 ≤ 7302250) (ih : ∀ (q' : Nat → Nat) (ts' : List Tx) (uC' uM' : St), Rel ts' uC' uM' → q' 11 = qC 11 → At X 4 (k + 2) (n + 162) (wC V q' ts' uC' ++ wM V qM uM') 1511 [(0, .ref b), (1, .ref (qC 11)), (2, .ref (qM 0)), (3, .int x3)] []) : At X 4 k n (wC V qC ts uC ++ wM V qM uM) 972 [(0, .ref b), (1, .ref (qC 11)), (2, .ref (qM 0)), (3, .int x3)] [] := by
  obtain ⟨r, uC', uM', hC, hM, hR'⟩ := tA_question TA ts uC uM  hR
  refine a_aload_n hX dL_law_972 rfl 1 rfl rfl ?_
  refine a_LC (q0 := 0) (rest := []) hX hE.1 (ctX11_question (q := qC) hE.c hC) K_L_122 ⟨rfl, rfl⟩ ⟨rfl, rfl, by decide, by decide⟩ ⟨by show k ≤ 600000; omega, by show n ≤ 7302250; omega⟩ (Nat.le_of_ble_eq_true rfl) dL_law_973 rfl rfl ?_
  refine a_aload_n hX dL_law_976 rfl 2 rfl rfl ?_
  refine a_LM (q0 := 0) (rest := [.int (r)]) hX hE.1 (ctX12_question (q := qM) hE.1 hM) K_L_125 ⟨rfl, rfl⟩ ⟨rfl, rfl, by decide, by decide⟩ ⟨by show k ≤ 600000; omega, by show n ≤ 7302250; omega⟩ (Nat.le_of_ble_eq_true rfl) dL_law_977 rfl rfl ?_
  refine a_icmp_eq (tgt := 1511) (ft := some ()) (ff := none) (r := some ()) hX dL_law_980 rfl rfl (if_pos rfl) (fun _ => ?_) (fun h => by cases h)
  refine a_wid (k2 := k + 2) (n2 := n + 162) (by omega) (by omega) ?_
  exact ih qC ts uC' uM' hR' rfl
theorem lc_23 {Rel : List Tx → St → St → Prop} (TA : TAll Rel) {X : Cx} {V : Vx} {g : Nat → Nat} {b L : Nat} {xs : Nat → Int32} (hX : OK X code 4 RL room_1 V) (hE : EnvL V g b L xs) {qC qM : Nat → Nat} {ts : List Tx} {uC uM : St} (hR : Rel ts uC uM) {x3 : Int32} (hin : Ins x3 L) {k n : Nat} (hk : k + 2 ≤ 600000 ∧ n + 162 ≤ 7302250) (ih : ∀ (q' : Nat → Nat) (ts' : List Tx) (uC' uM' : St), Rel ts' uC' uM' → q' 11 = qC 11 → At X 4 (k + 2) (n + 162) (wC V q' ts' uC' ++ wM V qM uM') 1511 [(0, .ref b), (1, .ref (qC 11)), (2, .ref (qM 0)), (3, .int x3)] []) : At X 4 k n (wC V qC ts uC ++ wM V qM uM) 985 [(0, .ref b), (1, .ref (qC 11)), (2, .ref (qM 0)), (3, .int x3)] [] := by
  obtain ⟨r, uC', uM', hC, hM, hR'⟩ := tA_worstOfTwo TA ts uC uM (xs (Int32.toNatClampNeg (x3 + 1))) (xs (Int32.toNatClampNeg (x3 + 2))) hR
  refine a_aload_n hX dL_law_985 rfl 1 rfl rfl ?_
  refine a_aload_n hX dL_law_986 rfl 0 rfl rfl ?_
  refine a_iload_n hX dL_law_987 rfl 3 rfl rfl ?_
  refine a_iconst (v := 1) hX dL_law_988 (by decide) rfl ?_
  refine a_iadd hX dL_law_989 rfl ?_
  refine a_sld hX hE hin.2.1 dL_law_990 rfl ?_
  refine a_aload_n hX dL_law_991 rfl 0 rfl rfl ?_
  refine a_iload_n hX dL_law_992 rfl 3 rfl rfl ?_
  refine a_iconst (v := 2) hX dL_law_993 (by decide) rfl ?_
  refine a_iadd hX dL_law_994 rfl ?_
  refine a_sld hX hE hin.2.2.1 dL_law_995 rfl ?_
  refine a_LC (q0 := 0) (rest := []) hX hE.1 (ctX11_worstOfTwo (q := qC) hE.c hC) K_L_126 ⟨rfl, rfl⟩ ⟨rfl, rfl, by decide, by decide⟩ ⟨by show k ≤ 600000; omega, by show n ≤ 7302250; omega⟩ (Nat.le_of_ble_eq_true rfl) dL_law_996 rfl rfl ?_
  refine a_aload_n hX dL_law_999 rfl 2 rfl rfl ?_
  refine a_aload_n hX dL_law_1000 rfl 0 rfl rfl ?_
  refine a_iload_n hX dL_law_1001 rfl 3 rfl rfl ?_
  refine a_iconst (v := 1) hX dL_law_1002 (by decide) rfl ?_
  refine a_iadd hX dL_law_1003 rfl ?_
  refine a_sld hX hE hin.2.1 dL_law_1004 rfl ?_
  refine a_aload_n hX dL_law_1005 rfl 0 rfl rfl ?_
  refine a_iload_n hX dL_law_1006 rfl 3 rfl rfl ?_
  refine a_iconst (v := 2) hX dL_law_1007 (by decide) rfl ?_
  refine a_iadd hX dL_law_1008 rfl ?_
  refine a_sld hX hE hin.2.2.1 dL_law_1009 rfl ?_
  refine a_LM (q0 := 0) (rest := [.long (r)]) hX hE.1 (ctX12_worstOfTwo (q := qM) hE.1 hM) K_L_129 ⟨rfl, rfl⟩ ⟨rfl, rfl, by decide, by decide⟩ ⟨by show k ≤ 600000; omega, by show n ≤ 7302250; omega⟩ (Nat.le_of_ble_eq_true rfl) dL_law_1010 rfl rfl ?_
  refine a_lcmp_eq (tgt := 1511) (ft := some ()) (ff := none) (r := some ()) hX dL_law_1013 rfl dL_law_1014 rfl rfl (if_pos rfl) (fun _ => ?_) (fun h => by cases h)
  refine a_wid (k2 := k + 2) (n2 := n + 162) (by omega) (by omega) ?_
  exact ih qC ts uC' uM' hR' rfl
theorem lc_24 {Rel : List Tx → St → St → Prop} (TA : TAll Rel) {X : Cx} {V : Vx} {g : Nat → Nat} {b L : Nat} {xs : Nat → Int32} (hX : OK X code 4 RL room_1 V) (hE : EnvL V g b L xs) {qC qM : Nat → Nat} {ts : List Tx} {uC uM : St} (hR : Rel ts uC uM) {x3 : Int32} (hin : Ins x3 L) {k n : Nat} (hk : k + 2 ≤ 600000 ∧ n + 162 ≤ 7302250) (ih : ∀ (q' : Nat → Nat) (ts' : List Tx) (uC' uM' : St), Rel ts' uC' uM' → q' 11 = qC 11 → At X 4 (k + 2) (n + 162) (wC V q' ts' uC' ++ wM V qM uM') 1511 [(0, .ref b), (1, .ref (qC 11)), (2, .ref (qM 0)), (3, .int x3)] []) : At X 4 k n (wC V qC ts uC ++ wM V qM uM) 1019 [(0, .ref b), (1, .ref (qC 11)), (2, .ref (qM 0)), (3, .int x3)] [] := by
  obtain ⟨r, uC', uM', hC, hM, hR'⟩ := tA_firstOfTwo TA ts uC uM  hR
  refine a_aload_n hX dL_law_1019 rfl 1 rfl rfl ?_
  refine a_LC (q0 := 0) (rest := []) hX hE.1 (ctX11_firstOfTwo (q := qC) hE.c hC) K_L_130 ⟨rfl, rfl⟩ ⟨rfl, rfl, by decide, by decide⟩ ⟨by show k ≤ 600000; omega, by show n ≤ 7302250; omega⟩ (Nat.le_of_ble_eq_true rfl) dL_law_1020 rfl rfl ?_
  refine a_aload_n hX dL_law_1023 rfl 2 rfl rfl ?_
  refine a_LM (q0 := 0) (rest := [.int (r)]) hX hE.1 (ctX12_firstOfTwo (q := qM) hE.1 hM) K_L_133 ⟨rfl, rfl⟩ ⟨rfl, rfl, by decide, by decide⟩ ⟨by show k ≤ 600000; omega, by show n ≤ 7302250; omega⟩ (Nat.le_of_ble_eq_true rfl) dL_law_1024 rfl rfl ?_
  refine a_icmp_eq (tgt := 1511) (ft := some ()) (ff := none) (r := some ()) hX dL_law_1027 rfl rfl (if_pos rfl) (fun _ => ?_) (fun h => by cases h)
  refine a_wid (k2 := k + 2) (n2 := n + 162) (by omega) (by omega) ?_
  exact ih qC ts uC' uM' hR' rfl
theorem lc_25 {Rel : List Tx → St → St → Prop} (TA : TAll Rel) {X : Cx} {V : Vx} {g : Nat → Nat} {b L : Nat} {xs : Nat → Int32} (hX : OK X code 4 RL room_1 V) (hE : EnvL V g b L xs) {qC qM : Nat → Nat} {ts : List Tx} {uC uM : St} (hR : Rel ts uC uM) {x3 : Int32} (hin : Ins x3 L) {k n : Nat} (hk : k + 2 ≤ 600000 ∧ n + 162 ≤ 7302250) (ih : ∀ (q' : Nat → Nat) (ts' : List Tx) (uC' uM' : St), Rel ts' uC' uM' → q' 11 = qC 11 → At X 4 (k + 2) (n + 162) (wC V q' ts' uC' ++ wM V qM uM') 1511 [(0, .ref b), (1, .ref (qC 11)), (2, .ref (qM 0)), (3, .int x3)] []) : At X 4 k n (wC V qC ts uC ++ wM V qM uM) 1032 [(0, .ref b), (1, .ref (qC 11)), (2, .ref (qM 0)), (3, .int x3)] [] := by
  obtain ⟨r, uC', uM', hC, hM, hR'⟩ := tA_sherd TA ts uC uM (xs (Int32.toNatClampNeg (x3 + 1))) (xs (Int32.toNatClampNeg (x3 + 2))) hR
  refine a_aload_n hX dL_law_1032 rfl 1 rfl rfl ?_
  refine a_aload_n hX dL_law_1033 rfl 0 rfl rfl ?_
  refine a_iload_n hX dL_law_1034 rfl 3 rfl rfl ?_
  refine a_iconst (v := 1) hX dL_law_1035 (by decide) rfl ?_
  refine a_iadd hX dL_law_1036 rfl ?_
  refine a_sld hX hE hin.2.1 dL_law_1037 rfl ?_
  refine a_aload_n hX dL_law_1038 rfl 0 rfl rfl ?_
  refine a_iload_n hX dL_law_1039 rfl 3 rfl rfl ?_
  refine a_iconst (v := 2) hX dL_law_1040 (by decide) rfl ?_
  refine a_iadd hX dL_law_1041 rfl ?_
  refine a_sld hX hE hin.2.2.1 dL_law_1042 rfl ?_
  refine a_LC (q0 := 0) (rest := []) hX hE.1 (ctX11_sherd (q := qC) hE.c hC) K_L_134 ⟨rfl, rfl⟩ ⟨rfl, rfl, by decide, by decide⟩ ⟨by show k ≤ 600000; omega, by show n ≤ 7302250; omega⟩ (Nat.le_of_ble_eq_true rfl) dL_law_1043 rfl rfl ?_
  refine a_aload_n hX dL_law_1046 rfl 2 rfl rfl ?_
  refine a_aload_n hX dL_law_1047 rfl 0 rfl rfl ?_
  refine a_iload_n hX dL_law_1048 rfl 3 rfl rfl ?_
  refine a_iconst (v := 1) hX dL_law_1049 (by decide) rfl ?_
  refine a_iadd hX dL_law_1050 rfl ?_
  refine a_sld hX hE hin.2.1 dL_law_1051 rfl ?_
  refine a_aload_n hX dL_law_1052 rfl 0 rfl rfl ?_
  refine a_iload_n hX dL_law_1053 rfl 3 rfl rfl ?_
  refine a_iconst (v := 2) hX dL_law_1054 (by decide) rfl ?_
  refine a_iadd hX dL_law_1055 rfl ?_
  refine a_sld hX hE hin.2.2.1 dL_law_1056 rfl ?_
  refine a_LM (q0 := 0) (rest := [.int (r)]) hX hE.1 (ctX12_sherd (q := qM) hE.1 hM) K_L_137 ⟨rfl, rfl⟩ ⟨rfl, rfl, by decide, by decide⟩ ⟨by show k ≤ 600000; omega, by show n ≤ 7302250; omega⟩ (Nat.le_of_ble_eq_true rfl) dL_law_1057 rfl rfl ?_
  refine a_icmp_eq (tgt := 1511) (ft := some ()) (ff := none) (r := some ()) hX dL_law_1060 rfl rfl (if_pos rfl) (fun _ => ?_) (fun h => by cases h)
  refine a_wid (k2 := k + 2) (n2 := n + 162) (by omega) (by omega) ?_
  exact ih qC ts uC' uM' hR' rfl
theorem lc_26 {Rel : List Tx → St → St → Prop} (TA : TAll Rel) {X : Cx} {V : Vx} {g : Nat → Nat} {b L : Nat} {xs : Nat → Int32} (hX : OK X code 4 RL room_1 V) (hE : EnvL V g b L xs) {qC qM : Nat → Nat} {ts : List Tx} {uC uM : St} (hR : Rel ts uC uM) {x3 : Int32} (hin : Ins x3 L) {k n : Nat} (hk : k + 2 ≤ 600000 ∧ n + 162 ≤ 7302250) (ih : ∀ (q' : Nat → Nat) (ts' : List Tx) (uC' uM' : St), Rel ts' uC' uM' → q' 11 = qC 11 → At X 4 (k + 2) (n + 162) (wC V q' ts' uC' ++ wM V qM uM') 1511 [(0, .ref b), (1, .ref (qC 11)), (2, .ref (qM 0)), (3, .int x3)] []) : At X 4 k n (wC V qC ts uC ++ wM V qM uM) 1065 [(0, .ref b), (1, .ref (qC 11)), (2, .ref (qM 0)), (3, .int x3)] [] := by
  obtain ⟨r, uC', uM', hC, hM, hR'⟩ := tA_set TA ts uC uM (xs (Int32.toNatClampNeg (x3 + 1))) (xs (Int32.toNatClampNeg (x3 + 2))) hR
  refine a_aload_n hX dL_law_1065 rfl 1 rfl rfl ?_
  refine a_aload_n hX dL_law_1066 rfl 0 rfl rfl ?_
  refine a_iload_n hX dL_law_1067 rfl 3 rfl rfl ?_
  refine a_iconst (v := 1) hX dL_law_1068 (by decide) rfl ?_
  refine a_iadd hX dL_law_1069 rfl ?_
  refine a_sld hX hE hin.2.1 dL_law_1070 rfl ?_
  refine a_aload_n hX dL_law_1071 rfl 0 rfl rfl ?_
  refine a_iload_n hX dL_law_1072 rfl 3 rfl rfl ?_
  refine a_iconst (v := 2) hX dL_law_1073 (by decide) rfl ?_
  refine a_iadd hX dL_law_1074 rfl ?_
  refine a_sld hX hE hin.2.2.1 dL_law_1075 rfl ?_
  refine a_LC (q0 := 0) (rest := []) hX hE.1 (ctX11_set (q := qC) hE.c hC) K_L_138 ⟨rfl, rfl⟩ ⟨rfl, rfl, by decide, by decide⟩ ⟨by show k ≤ 600000; omega, by show n ≤ 7302250; omega⟩ (Nat.le_of_ble_eq_true rfl) dL_law_1076 rfl rfl ?_
  refine a_aload_n hX dL_law_1079 rfl 2 rfl rfl ?_
  refine a_aload_n hX dL_law_1080 rfl 0 rfl rfl ?_
  refine a_iload_n hX dL_law_1081 rfl 3 rfl rfl ?_
  refine a_iconst (v := 1) hX dL_law_1082 (by decide) rfl ?_
  refine a_iadd hX dL_law_1083 rfl ?_
  refine a_sld hX hE hin.2.1 dL_law_1084 rfl ?_
  refine a_aload_n hX dL_law_1085 rfl 0 rfl rfl ?_
  refine a_iload_n hX dL_law_1086 rfl 3 rfl rfl ?_
  refine a_iconst (v := 2) hX dL_law_1087 (by decide) rfl ?_
  refine a_iadd hX dL_law_1088 rfl ?_
  refine a_sld hX hE hin.2.2.1 dL_law_1089 rfl ?_
  refine a_LM (q0 := 0) (rest := [.int (r)]) hX hE.1 (ctX12_set (q := qM) hE.1 hM) K_L_141 ⟨rfl, rfl⟩ ⟨rfl, rfl, by decide, by decide⟩ ⟨by show k ≤ 600000; omega, by show n ≤ 7302250; omega⟩ (Nat.le_of_ble_eq_true rfl) dL_law_1090 rfl rfl ?_
  refine a_icmp_eq (tgt := 1511) (ft := some ()) (ff := none) (r := some ()) hX dL_law_1093 rfl rfl (if_pos rfl) (fun _ => ?_) (fun h => by cases h)
  refine a_wid (k2 := k + 2) (n2 := n + 162) (by omega) (by omega) ?_
  exact ih qC ts uC' uM' hR' rfl
theorem lc_27 {Rel : List Tx → St → St → Prop} (TA : TAll Rel) {X : Cx} {V : Vx} {g : Nat → Nat} {b L : Nat} {xs : Nat → Int32} (hX : OK X code 4 RL room_1 V) (hE : EnvL V g b L xs) {qC qM : Nat → Nat} {ts : List Tx} {uC uM : St} (hR : Rel ts uC uM) {x3 : Int32} (hin : Ins x3 L) {k n : Nat} (hk : k + 2 ≤ 600000 ∧ n + 162 ≤ 7302250) (ih : ∀ (q' : Nat → Nat) (ts' : List Tx) (uC' uM' : St), Rel ts' uC' uM' → q' 11 = qC 11 → At X 4 (k + 2) (n + 162) (wC V q' ts' uC' ++ wM V qM uM') 1511 [(0, .ref b), (1, .ref (qC 11)), (2, .ref (qM 0)), (3, .int x3)] []) : At X 4 k n (wC V qC ts uC ++ wM V qM uM) 1098 [(0, .ref b), (1, .ref (qC 11)), (2, .ref (qM 0)), (3, .int x3)] [] := by
  obtain ⟨r, hC, hM, hR'⟩ := tA_joined TA ts uC uM (xs (Int32.toNatClampNeg (x3 + 1))) (xs (Int32.toNatClampNeg (x3 + 2))) hR
  refine a_aload_n hX dL_law_1098 rfl 1 rfl rfl ?_
  refine a_aload_n hX dL_law_1099 rfl 0 rfl rfl ?_
  refine a_iload_n hX dL_law_1100 rfl 3 rfl rfl ?_
  refine a_iconst (v := 1) hX dL_law_1101 (by decide) rfl ?_
  refine a_iadd hX dL_law_1102 rfl ?_
  refine a_sld hX hE hin.2.1 dL_law_1103 rfl ?_
  refine a_aload_n hX dL_law_1104 rfl 0 rfl rfl ?_
  refine a_iload_n hX dL_law_1105 rfl 3 rfl rfl ?_
  refine a_iconst (v := 2) hX dL_law_1106 (by decide) rfl ?_
  refine a_iadd hX dL_law_1107 rfl ?_
  refine a_sld hX hE hin.2.2.1 dL_law_1108 rfl ?_
  refine a_LC (q0 := 0) (rest := []) hX hE.1 (ctX11_joined (q := qC) hE.c hC) K_L_142 ⟨rfl, rfl⟩ ⟨rfl, rfl, by decide, by decide⟩ ⟨by show k ≤ 600000; omega, by show n ≤ 7302250; omega⟩ (Nat.le_of_ble_eq_true rfl) dL_law_1109 rfl rfl ?_
  refine a_aload_n hX dL_law_1112 rfl 2 rfl rfl ?_
  refine a_aload_n hX dL_law_1113 rfl 0 rfl rfl ?_
  refine a_iload_n hX dL_law_1114 rfl 3 rfl rfl ?_
  refine a_iconst (v := 1) hX dL_law_1115 (by decide) rfl ?_
  refine a_iadd hX dL_law_1116 rfl ?_
  refine a_sld hX hE hin.2.1 dL_law_1117 rfl ?_
  refine a_aload_n hX dL_law_1118 rfl 0 rfl rfl ?_
  refine a_iload_n hX dL_law_1119 rfl 3 rfl rfl ?_
  refine a_iconst (v := 2) hX dL_law_1120 (by decide) rfl ?_
  refine a_iadd hX dL_law_1121 rfl ?_
  refine a_sld hX hE hin.2.2.1 dL_law_1122 rfl ?_
  refine a_LM (q0 := 0) (rest := [.int (r)]) hX hE.1 (ctX12_joined (q := qM) hE.1 hM) K_L_145 ⟨rfl, rfl⟩ ⟨rfl, rfl, by decide, by decide⟩ ⟨by show k ≤ 600000; omega, by show n ≤ 7302250; omega⟩ (Nat.le_of_ble_eq_true rfl) dL_law_1123 rfl rfl ?_
  refine a_icmp_eq (tgt := 1511) (ft := some ()) (ff := none) (r := some ()) hX dL_law_1126 rfl rfl (if_pos rfl) (fun _ => ?_) (fun h => by cases h)
  refine a_wid (k2 := k + 2) (n2 := n + 162) (by omega) (by omega) ?_
  exact ih qC ts uC uM hR' rfl
theorem lc_28 {Rel : List Tx → St → St → Prop} (TA : TAll Rel) {X : Cx} {V : Vx} {g : Nat → Nat} {b L : Nat} {xs : Nat → Int32} (hX : OK X code 4 RL room_1 V) (hE : EnvL V g b L xs) {qC qM : Nat → Nat} {ts : List Tx} {uC uM : St} (hR : Rel ts uC uM) {x3 : Int32} (hin : Ins x3 L) {k n : Nat} (hk : k + 2 ≤ 600000 ∧ n + 162 ≤ 7302250) (ih : ∀ (q' : Nat → Nat) (ts' : List Tx) (uC' uM' : St), Rel ts' uC' uM' → q' 11 = qC 11 → At X 4 (k + 2) (n + 162) (wC V q' ts' uC' ++ wM V qM uM') 1511 [(0, .ref b), (1, .ref (qC 11)), (2, .ref (qM 0)), (3, .int x3)] []) : At X 4 k n (wC V qC ts uC ++ wM V qM uM) 1131 [(0, .ref b), (1, .ref (qC 11)), (2, .ref (qM 0)), (3, .int x3)] [] := by
  obtain ⟨r, uC', uM', hC, hM, hR'⟩ := tA_row TA ts uC uM (xs (Int32.toNatClampNeg (x3 + 1))) hR
  refine a_aload_n hX dL_law_1131 rfl 1 rfl rfl ?_
  refine a_aload_n hX dL_law_1132 rfl 0 rfl rfl ?_
  refine a_iload_n hX dL_law_1133 rfl 3 rfl rfl ?_
  refine a_iconst (v := 1) hX dL_law_1134 (by decide) rfl ?_
  refine a_iadd hX dL_law_1135 rfl ?_
  refine a_sld hX hE hin.2.1 dL_law_1136 rfl ?_
  refine a_LC (q0 := 0) (rest := []) hX hE.1 (ctX11_row (q := qC) hE.c hC) K_L_146 ⟨rfl, rfl⟩ ⟨rfl, rfl, by decide, by decide⟩ ⟨by show k ≤ 600000; omega, by show n ≤ 7302250; omega⟩ (Nat.le_of_ble_eq_true rfl) dL_law_1137 rfl rfl ?_
  refine a_aload_n hX dL_law_1140 rfl 2 rfl rfl ?_
  refine a_aload_n hX dL_law_1141 rfl 0 rfl rfl ?_
  refine a_iload_n hX dL_law_1142 rfl 3 rfl rfl ?_
  refine a_iconst (v := 1) hX dL_law_1143 (by decide) rfl ?_
  refine a_iadd hX dL_law_1144 rfl ?_
  refine a_sld hX hE hin.2.1 dL_law_1145 rfl ?_
  refine a_LM (q0 := 0) (rest := [.int (r)]) hX hE.1 (ctX12_row (q := qM) hE.1 hM) K_L_149 ⟨rfl, rfl⟩ ⟨rfl, rfl, by decide, by decide⟩ ⟨by show k ≤ 600000; omega, by show n ≤ 7302250; omega⟩ (Nat.le_of_ble_eq_true rfl) dL_law_1146 rfl rfl ?_
  refine a_icmp_eq (tgt := 1511) (ft := some ()) (ff := none) (r := some ()) hX dL_law_1149 rfl rfl (if_pos rfl) (fun _ => ?_) (fun h => by cases h)
  refine a_wid (k2 := k + 2) (n2 := n + 162) (by omega) (by omega) ?_
  exact ih qC ts uC' uM' hR' rfl
theorem lc_29 {Rel : List Tx → St → St → Prop} (TA : TAll Rel) {X : Cx} {V : Vx} {g : Nat → Nat} {b L : Nat} {xs : Nat → Int32} (hX : OK X code 4 RL room_1 V) (hE : EnvL V g b L xs) {qC qM : Nat → Nat} {ts : List Tx} {uC uM : St} (hR : Rel ts uC uM) {x3 : Int32} (hin : Ins x3 L) {k n : Nat} (hk : k + 2 ≤ 600000 ∧ n + 162 ≤ 7302250) (ih : ∀ (q' : Nat → Nat) (ts' : List Tx) (uC' uM' : St), Rel ts' uC' uM' → q' 11 = qC 11 → At X 4 (k + 2) (n + 162) (wC V q' ts' uC' ++ wM V qM uM') 1511 [(0, .ref b), (1, .ref (qC 11)), (2, .ref (qM 0)), (3, .int x3)] []) : At X 4 k n (wC V qC ts uC ++ wM V qM uM) 1154 [(0, .ref b), (1, .ref (qC 11)), (2, .ref (qM 0)), (3, .int x3)] [] := by
  obtain ⟨r, uC', uM', hC, hM, hR'⟩ := tA_record TA ts uC uM (xs (Int32.toNatClampNeg (x3 + 1))) (xs (Int32.toNatClampNeg (x3 + 2))) hR
  refine a_aload_n hX dL_law_1154 rfl 1 rfl rfl ?_
  refine a_aload_n hX dL_law_1155 rfl 0 rfl rfl ?_
  refine a_iload_n hX dL_law_1156 rfl 3 rfl rfl ?_
  refine a_iconst (v := 1) hX dL_law_1157 (by decide) rfl ?_
  refine a_iadd hX dL_law_1158 rfl ?_
  refine a_sld hX hE hin.2.1 dL_law_1159 rfl ?_
  refine a_aload_n hX dL_law_1160 rfl 0 rfl rfl ?_
  refine a_iload_n hX dL_law_1161 rfl 3 rfl rfl ?_
  refine a_iconst (v := 2) hX dL_law_1162 (by decide) rfl ?_
  refine a_iadd hX dL_law_1163 rfl ?_
  refine a_sld hX hE hin.2.2.1 dL_law_1164 rfl ?_
  refine a_LC (q0 := 0) (rest := []) hX hE.1 (ctX11_record (q := qC) hE.c hC) K_L_150 ⟨rfl, rfl⟩ ⟨rfl, rfl, by decide, by decide⟩ ⟨by show k ≤ 600000; omega, by show n ≤ 7302250; omega⟩ (Nat.le_of_ble_eq_true rfl) dL_law_1165 rfl rfl ?_
  refine a_aload_n hX dL_law_1168 rfl 2 rfl rfl ?_
  refine a_aload_n hX dL_law_1169 rfl 0 rfl rfl ?_
  refine a_iload_n hX dL_law_1170 rfl 3 rfl rfl ?_
  refine a_iconst (v := 1) hX dL_law_1171 (by decide) rfl ?_
  refine a_iadd hX dL_law_1172 rfl ?_
  refine a_sld hX hE hin.2.1 dL_law_1173 rfl ?_
  refine a_aload_n hX dL_law_1174 rfl 0 rfl rfl ?_
  refine a_iload_n hX dL_law_1175 rfl 3 rfl rfl ?_
  refine a_iconst (v := 2) hX dL_law_1176 (by decide) rfl ?_
  refine a_iadd hX dL_law_1177 rfl ?_
  refine a_sld hX hE hin.2.2.1 dL_law_1178 rfl ?_
  refine a_LM (q0 := 0) (rest := [.int (r)]) hX hE.1 (ctX12_record (q := qM) hE.1 hM) K_L_153 ⟨rfl, rfl⟩ ⟨rfl, rfl, by decide, by decide⟩ ⟨by show k ≤ 600000; omega, by show n ≤ 7302250; omega⟩ (Nat.le_of_ble_eq_true rfl) dL_law_1179 rfl rfl ?_
  refine a_icmp_eq (tgt := 1511) (ft := some ()) (ff := none) (r := some ()) hX dL_law_1182 rfl rfl (if_pos rfl) (fun _ => ?_) (fun h => by cases h)
  refine a_wid (k2 := k + 2) (n2 := n + 162) (by omega) (by omega) ?_
  exact ih qC ts uC' uM' hR' rfl
theorem lc_30 {Rel : List Tx → St → St → Prop} (TA : TAll Rel) {X : Cx} {V : Vx} {g : Nat → Nat} {b L : Nat} {xs : Nat → Int32} (hX : OK X code 4 RL room_1 V) (hE : EnvL V g b L xs) {qC qM : Nat → Nat} {ts : List Tx} {uC uM : St} (hR : Rel ts uC uM) {x3 : Int32} (hin : Ins x3 L) {k n : Nat} (hk : k + 2 ≤ 600000 ∧ n + 162 ≤ 7302250) (ih : ∀ (q' : Nat → Nat) (ts' : List Tx) (uC' uM' : St), Rel ts' uC' uM' → q' 11 = qC 11 → At X 4 (k + 2) (n + 162) (wC V q' ts' uC' ++ wM V qM uM') 1511 [(0, .ref b), (1, .ref (qC 11)), (2, .ref (qM 0)), (3, .int x3)] []) : At X 4 k n (wC V qC ts uC ++ wM V qM uM) 1187 [(0, .ref b), (1, .ref (qC 11)), (2, .ref (qM 0)), (3, .int x3)] [] := by
  obtain ⟨r, uM', hC, hM, hR'⟩ := tA_same TA ts uC uM (xs (Int32.toNatClampNeg (x3 + 1))) (xs (Int32.toNatClampNeg (x3 + 2))) (xs (Int32.toNatClampNeg (x3 + 3))) hR
  refine a_aload_n hX dL_law_1187 rfl 1 rfl rfl ?_
  refine a_aload_n hX dL_law_1188 rfl 0 rfl rfl ?_
  refine a_iload_n hX dL_law_1189 rfl 3 rfl rfl ?_
  refine a_iconst (v := 1) hX dL_law_1190 (by decide) rfl ?_
  refine a_iadd hX dL_law_1191 rfl ?_
  refine a_sld hX hE hin.2.1 dL_law_1192 rfl ?_
  refine a_aload_n hX dL_law_1193 rfl 0 rfl rfl ?_
  refine a_iload_n hX dL_law_1194 rfl 3 rfl rfl ?_
  refine a_iconst (v := 2) hX dL_law_1195 (by decide) rfl ?_
  refine a_iadd hX dL_law_1196 rfl ?_
  refine a_sld hX hE hin.2.2.1 dL_law_1197 rfl ?_
  refine a_aload_n hX dL_law_1198 rfl 0 rfl rfl ?_
  refine a_iload_n hX dL_law_1199 rfl 3 rfl rfl ?_
  refine a_iconst (v := 3) hX dL_law_1200 (by decide) rfl ?_
  refine a_iadd hX dL_law_1201 rfl ?_
  refine a_sld hX hE hin.2.2.2.1 dL_law_1202 rfl ?_
  refine a_LC (q0 := 0) (rest := []) hX hE.1 (ctX11_same (q := qC) hE.c hC) K_L_154 ⟨rfl, rfl⟩ ⟨rfl, rfl, by decide, by decide⟩ ⟨by show k ≤ 600000; omega, by show n ≤ 7302250; omega⟩ (Nat.le_of_ble_eq_true rfl) dL_law_1203 rfl rfl ?_
  refine a_aload_n hX dL_law_1206 rfl 2 rfl rfl ?_
  refine a_aload_n hX dL_law_1207 rfl 0 rfl rfl ?_
  refine a_iload_n hX dL_law_1208 rfl 3 rfl rfl ?_
  refine a_iconst (v := 1) hX dL_law_1209 (by decide) rfl ?_
  refine a_iadd hX dL_law_1210 rfl ?_
  refine a_sld hX hE hin.2.1 dL_law_1211 rfl ?_
  refine a_aload_n hX dL_law_1212 rfl 0 rfl rfl ?_
  refine a_iload_n hX dL_law_1213 rfl 3 rfl rfl ?_
  refine a_iconst (v := 2) hX dL_law_1214 (by decide) rfl ?_
  refine a_iadd hX dL_law_1215 rfl ?_
  refine a_sld hX hE hin.2.2.1 dL_law_1216 rfl ?_
  refine a_aload_n hX dL_law_1217 rfl 0 rfl rfl ?_
  refine a_iload_n hX dL_law_1218 rfl 3 rfl rfl ?_
  refine a_iconst (v := 3) hX dL_law_1219 (by decide) rfl ?_
  refine a_iadd hX dL_law_1220 rfl ?_
  refine a_sld hX hE hin.2.2.2.1 dL_law_1221 rfl ?_
  refine a_LM (q0 := 0) (rest := [.int (r)]) hX hE.1 (ctX12_same (q := qM) hE.1 hM) K_L_157 ⟨rfl, rfl⟩ ⟨rfl, rfl, by decide, by decide⟩ ⟨by show k ≤ 600000; omega, by show n ≤ 7302250; omega⟩ (Nat.le_of_ble_eq_true rfl) dL_law_1222 rfl rfl ?_
  refine a_icmp_eq (tgt := 1511) (ft := some ()) (ff := none) (r := some ()) hX dL_law_1225 rfl rfl (if_pos rfl) (fun _ => ?_) (fun h => by cases h)
  refine a_wid (k2 := k + 2) (n2 := n + 162) (by omega) (by omega) ?_
  exact ih qC ts uC uM' hR' rfl
theorem lc_31 {Rel : List Tx → St → St → Prop} (TA : TAll Rel) {X : Cx} {V : Vx} {g : Nat → Nat} {b L : Nat} {xs : Nat → Int32} (hX : OK X code 4 RL room_1 V) (hE : EnvL V g b L xs) {qC qM : Nat → Nat} {ts : List Tx} {uC uM : St} (hR : Rel ts uC uM) {x3 : Int32} (hin : Ins x3 L) {k n : Nat} (hk : k + 2 ≤ 600000 ∧ n + 162 ≤ 7302250) (ih : ∀ (q' : Nat → Nat) (ts' : List Tx) (uC' uM' : St), Rel ts' uC' uM' → q' 11 = qC 11 → At X 4 (k + 2) (n + 162) (wC V q' ts' uC' ++ wM V qM uM') 1511 [(0, .ref b), (1, .ref (qC 11)), (2, .ref (qM 0)), (3, .int x3)] []) : At X 4 k n (wC V qC ts uC ++ wM V qM uM) 1230 [(0, .ref b), (1, .ref (qC 11)), (2, .ref (qM 0)), (3, .int x3)] [] := by
  obtain ⟨r, uM', hC, hM, hR'⟩ := tA_things TA ts uC uM (xs (Int32.toNatClampNeg (x3 + 1))) hR
  refine a_aload_n hX dL_law_1230 rfl 1 rfl rfl ?_
  refine a_aload_n hX dL_law_1231 rfl 0 rfl rfl ?_
  refine a_iload_n hX dL_law_1232 rfl 3 rfl rfl ?_
  refine a_iconst (v := 1) hX dL_law_1233 (by decide) rfl ?_
  refine a_iadd hX dL_law_1234 rfl ?_
  refine a_sld hX hE hin.2.1 dL_law_1235 rfl ?_
  refine a_LC (q0 := 0) (rest := []) hX hE.1 (ctX11_things (q := qC) hE.c hC) K_L_158 ⟨rfl, rfl⟩ ⟨rfl, rfl, by decide, by decide⟩ ⟨by show k ≤ 600000; omega, by show n ≤ 7302250; omega⟩ (Nat.le_of_ble_eq_true rfl) dL_law_1236 rfl rfl ?_
  refine a_aload_n hX dL_law_1239 rfl 2 rfl rfl ?_
  refine a_aload_n hX dL_law_1240 rfl 0 rfl rfl ?_
  refine a_iload_n hX dL_law_1241 rfl 3 rfl rfl ?_
  refine a_iconst (v := 1) hX dL_law_1242 (by decide) rfl ?_
  refine a_iadd hX dL_law_1243 rfl ?_
  refine a_sld hX hE hin.2.1 dL_law_1244 rfl ?_
  refine a_LM (q0 := 0) (rest := [.int (r)]) hX hE.1 (ctX12_things (q := qM) hE.1 hM) K_L_161 ⟨rfl, rfl⟩ ⟨rfl, rfl, by decide, by decide⟩ ⟨by show k ≤ 600000; omega, by show n ≤ 7302250; omega⟩ (Nat.le_of_ble_eq_true rfl) dL_law_1245 rfl rfl ?_
  refine a_icmp_eq (tgt := 1511) (ft := some ()) (ff := none) (r := some ()) hX dL_law_1248 rfl rfl (if_pos rfl) (fun _ => ?_) (fun h => by cases h)
  refine a_wid (k2 := k + 2) (n2 := n + 162) (by omega) (by omega) ?_
  exact ih qC ts uC uM' hR' rfl
theorem lc_32 {Rel : List Tx → St → St → Prop} (TA : TAll Rel) {X : Cx} {V : Vx} {g : Nat → Nat} {b L : Nat} {xs : Nat → Int32} (hX : OK X code 4 RL room_1 V) (hE : EnvL V g b L xs) {qC qM : Nat → Nat} {ts : List Tx} {uC uM : St} (hR : Rel ts uC uM) {x3 : Int32} (hin : Ins x3 L) {k n : Nat} (hk : k + 2 ≤ 600000 ∧ n + 162 ≤ 7302250) (ih : ∀ (q' : Nat → Nat) (ts' : List Tx) (uC' uM' : St), Rel ts' uC' uM' → q' 11 = qC 11 → At X 4 (k + 2) (n + 162) (wC V q' ts' uC' ++ wM V qM uM') 1511 [(0, .ref b), (1, .ref (qC 11)), (2, .ref (qM 0)), (3, .int x3)] []) : At X 4 k n (wC V qC ts uC ++ wM V qM uM) 1253 [(0, .ref b), (1, .ref (qC 11)), (2, .ref (qM 0)), (3, .int x3)] [] := by
  obtain ⟨r, hC, hM, hR'⟩ := tA_count TA ts uC uM (xs (Int32.toNatClampNeg (x3 + 1))) hR
  refine a_aload_n hX dL_law_1253 rfl 1 rfl rfl ?_
  refine a_aload_n hX dL_law_1254 rfl 0 rfl rfl ?_
  refine a_iload_n hX dL_law_1255 rfl 3 rfl rfl ?_
  refine a_iconst (v := 1) hX dL_law_1256 (by decide) rfl ?_
  refine a_iadd hX dL_law_1257 rfl ?_
  refine a_sld hX hE hin.2.1 dL_law_1258 rfl ?_
  refine a_LC (q0 := 0) (rest := []) hX hE.1 (ctX11_count (q := qC) hE.c hC) K_L_162 ⟨rfl, rfl⟩ ⟨rfl, rfl, by decide, by decide⟩ ⟨by show k ≤ 600000; omega, by show n ≤ 7302250; omega⟩ (Nat.le_of_ble_eq_true rfl) dL_law_1259 rfl rfl ?_
  refine a_aload_n hX dL_law_1262 rfl 2 rfl rfl ?_
  refine a_aload_n hX dL_law_1263 rfl 0 rfl rfl ?_
  refine a_iload_n hX dL_law_1264 rfl 3 rfl rfl ?_
  refine a_iconst (v := 1) hX dL_law_1265 (by decide) rfl ?_
  refine a_iadd hX dL_law_1266 rfl ?_
  refine a_sld hX hE hin.2.1 dL_law_1267 rfl ?_
  refine a_LM (q0 := 0) (rest := [.int (r)]) hX hE.1 (ctX12_count (q := qM) hE.1 hM) K_L_165 ⟨rfl, rfl⟩ ⟨rfl, rfl, by decide, by decide⟩ ⟨by show k ≤ 600000; omega, by show n ≤ 7302250; omega⟩ (Nat.le_of_ble_eq_true rfl) dL_law_1268 rfl rfl ?_
  refine a_icmp_eq (tgt := 1511) (ft := some ()) (ff := none) (r := some ()) hX dL_law_1271 rfl rfl (if_pos rfl) (fun _ => ?_) (fun h => by cases h)
  refine a_wid (k2 := k + 2) (n2 := n + 162) (by omega) (by omega) ?_
  exact ih qC ts uC uM hR' rfl
theorem lc_33 {Rel : List Tx → St → St → Prop} (TA : TAll Rel) {X : Cx} {V : Vx} {g : Nat → Nat} {b L : Nat} {xs : Nat → Int32} (hX : OK X code 4 RL room_1 V) (hE : EnvL V g b L xs) {qC qM : Nat → Nat} {ts : List Tx} {uC uM : St} (hR : Rel ts uC uM) {x3 : Int32} (hin : Ins x3 L) {k n : Nat} (hk : k + 2 ≤ 600000 ∧ n + 162 ≤ 7302250) (ih : ∀ (q' : Nat → Nat) (ts' : List Tx) (uC' uM' : St), Rel ts' uC' uM' → q' 11 = qC 11 → At X 4 (k + 2) (n + 162) (wC V q' ts' uC' ++ wM V qM uM') 1511 [(0, .ref b), (1, .ref (qC 11)), (2, .ref (qM 0)), (3, .int x3)] []) : At X 4 k n (wC V qC ts uC ++ wM V qM uM) 1276 [(0, .ref b), (1, .ref (qC 11)), (2, .ref (qM 0)), (3, .int x3)] [] := by
  obtain ⟨r, uC', uM', hC, hM, hR'⟩ := tA_sheet TA ts uC uM (xs (Int32.toNatClampNeg (x3 + 1))) (xs (Int32.toNatClampNeg (x3 + 2))) (xs (Int32.toNatClampNeg (x3 + 3))) hR
  refine a_aload_n hX dL_law_1276 rfl 1 rfl rfl ?_
  refine a_aload_n hX dL_law_1277 rfl 0 rfl rfl ?_
  refine a_iload_n hX dL_law_1278 rfl 3 rfl rfl ?_
  refine a_iconst (v := 1) hX dL_law_1279 (by decide) rfl ?_
  refine a_iadd hX dL_law_1280 rfl ?_
  refine a_sld hX hE hin.2.1 dL_law_1281 rfl ?_
  refine a_aload_n hX dL_law_1282 rfl 0 rfl rfl ?_
  refine a_iload_n hX dL_law_1283 rfl 3 rfl rfl ?_
  refine a_iconst (v := 2) hX dL_law_1284 (by decide) rfl ?_
  refine a_iadd hX dL_law_1285 rfl ?_
  refine a_sld hX hE hin.2.2.1 dL_law_1286 rfl ?_
  refine a_aload_n hX dL_law_1287 rfl 0 rfl rfl ?_
  refine a_iload_n hX dL_law_1288 rfl 3 rfl rfl ?_
  refine a_iconst (v := 3) hX dL_law_1289 (by decide) rfl ?_
  refine a_iadd hX dL_law_1290 rfl ?_
  refine a_sld hX hE hin.2.2.2.1 dL_law_1291 rfl ?_
  refine a_LC (q0 := 0) (rest := []) hX hE.1 (ctX11_sheet (q := qC) hE.c hC) K_L_166 ⟨rfl, rfl⟩ ⟨rfl, rfl, by decide, by decide⟩ ⟨by show k ≤ 600000; omega, by show n ≤ 7302250; omega⟩ (Nat.le_of_ble_eq_true rfl) dL_law_1292 rfl rfl ?_
  refine a_aload_n hX dL_law_1295 rfl 2 rfl rfl ?_
  refine a_aload_n hX dL_law_1296 rfl 0 rfl rfl ?_
  refine a_iload_n hX dL_law_1297 rfl 3 rfl rfl ?_
  refine a_iconst (v := 1) hX dL_law_1298 (by decide) rfl ?_
  refine a_iadd hX dL_law_1299 rfl ?_
  refine a_sld hX hE hin.2.1 dL_law_1300 rfl ?_
  refine a_aload_n hX dL_law_1301 rfl 0 rfl rfl ?_
  refine a_iload_n hX dL_law_1302 rfl 3 rfl rfl ?_
  refine a_iconst (v := 2) hX dL_law_1303 (by decide) rfl ?_
  refine a_iadd hX dL_law_1304 rfl ?_
  refine a_sld hX hE hin.2.2.1 dL_law_1305 rfl ?_
  refine a_aload_n hX dL_law_1306 rfl 0 rfl rfl ?_
  refine a_iload_n hX dL_law_1307 rfl 3 rfl rfl ?_
  refine a_iconst (v := 3) hX dL_law_1308 (by decide) rfl ?_
  refine a_iadd hX dL_law_1309 rfl ?_
  refine a_sld hX hE hin.2.2.2.1 dL_law_1310 rfl ?_
  refine a_LM (q0 := 0) (rest := [.int (r)]) hX hE.1 (ctX12_sheet (q := qM) hE.1 hM) K_L_169 ⟨rfl, rfl⟩ ⟨rfl, rfl, by decide, by decide⟩ ⟨by show k ≤ 600000; omega, by show n ≤ 7302250; omega⟩ (Nat.le_of_ble_eq_true rfl) dL_law_1311 rfl rfl ?_
  refine a_icmp_eq (tgt := 1511) (ft := some ()) (ff := none) (r := some ()) hX dL_law_1314 rfl rfl (if_pos rfl) (fun _ => ?_) (fun h => by cases h)
  refine a_wid (k2 := k + 2) (n2 := n + 162) (by omega) (by omega) ?_
  exact ih qC ts uC' uM' hR' rfl
theorem lc_34 {Rel : List Tx → St → St → Prop} (TA : TAll Rel) {X : Cx} {V : Vx} {g : Nat → Nat} {b L : Nat} {xs : Nat → Int32} (hX : OK X code 4 RL room_1 V) (hE : EnvL V g b L xs) {qC qM : Nat → Nat} {ts : List Tx} {uC uM : St} (hR : Rel ts uC uM) {x3 : Int32} (hin : Ins x3 L) {k n : Nat} (hk : k + 2 ≤ 600000 ∧ n + 162 ≤ 7302250) (ih : ∀ (q' : Nat → Nat) (ts' : List Tx) (uC' uM' : St), Rel ts' uC' uM' → q' 11 = qC 11 → At X 4 (k + 2) (n + 162) (wC V q' ts' uC' ++ wM V qM uM') 1511 [(0, .ref b), (1, .ref (qC 11)), (2, .ref (qM 0)), (3, .int x3)] []) : At X 4 k n (wC V qC ts uC ++ wM V qM uM) 1319 [(0, .ref b), (1, .ref (qC 11)), (2, .ref (qM 0)), (3, .int x3)] [] := by
  obtain ⟨r, uC', uM', hC, hM, hR'⟩ := tA_cell TA ts uC uM (xs (Int32.toNatClampNeg (x3 + 1))) (xs (Int32.toNatClampNeg (x3 + 2))) (xs (Int32.toNatClampNeg (x3 + 3))) hR
  refine a_aload_n hX dL_law_1319 rfl 1 rfl rfl ?_
  refine a_aload_n hX dL_law_1320 rfl 0 rfl rfl ?_
  refine a_iload_n hX dL_law_1321 rfl 3 rfl rfl ?_
  refine a_iconst (v := 1) hX dL_law_1322 (by decide) rfl ?_
  refine a_iadd hX dL_law_1323 rfl ?_
  refine a_sld hX hE hin.2.1 dL_law_1324 rfl ?_
  refine a_aload_n hX dL_law_1325 rfl 0 rfl rfl ?_
  refine a_iload_n hX dL_law_1326 rfl 3 rfl rfl ?_
  refine a_iconst (v := 2) hX dL_law_1327 (by decide) rfl ?_
  refine a_iadd hX dL_law_1328 rfl ?_
  refine a_sld hX hE hin.2.2.1 dL_law_1329 rfl ?_
  refine a_aload_n hX dL_law_1330 rfl 0 rfl rfl ?_
  refine a_iload_n hX dL_law_1331 rfl 3 rfl rfl ?_
  refine a_iconst (v := 3) hX dL_law_1332 (by decide) rfl ?_
  refine a_iadd hX dL_law_1333 rfl ?_
  refine a_sld hX hE hin.2.2.2.1 dL_law_1334 rfl ?_
  refine a_LC (q0 := 0) (rest := []) hX hE.1 (ctX11_cell (q := qC) hE.c hC) K_L_170 ⟨rfl, rfl⟩ ⟨rfl, rfl, by decide, by decide⟩ ⟨by show k ≤ 600000; omega, by show n ≤ 7302250; omega⟩ (Nat.le_of_ble_eq_true rfl) dL_law_1335 rfl rfl ?_
  refine a_aload_n hX dL_law_1338 rfl 2 rfl rfl ?_
  refine a_aload_n hX dL_law_1339 rfl 0 rfl rfl ?_
  refine a_iload_n hX dL_law_1340 rfl 3 rfl rfl ?_
  refine a_iconst (v := 1) hX dL_law_1341 (by decide) rfl ?_
  refine a_iadd hX dL_law_1342 rfl ?_
  refine a_sld hX hE hin.2.1 dL_law_1343 rfl ?_
  refine a_aload_n hX dL_law_1344 rfl 0 rfl rfl ?_
  refine a_iload_n hX dL_law_1345 rfl 3 rfl rfl ?_
  refine a_iconst (v := 2) hX dL_law_1346 (by decide) rfl ?_
  refine a_iadd hX dL_law_1347 rfl ?_
  refine a_sld hX hE hin.2.2.1 dL_law_1348 rfl ?_
  refine a_aload_n hX dL_law_1349 rfl 0 rfl rfl ?_
  refine a_iload_n hX dL_law_1350 rfl 3 rfl rfl ?_
  refine a_iconst (v := 3) hX dL_law_1351 (by decide) rfl ?_
  refine a_iadd hX dL_law_1352 rfl ?_
  refine a_sld hX hE hin.2.2.2.1 dL_law_1353 rfl ?_
  refine a_LM (q0 := 0) (rest := [.int (r)]) hX hE.1 (ctX12_cell (q := qM) hE.1 hM) K_L_172 ⟨rfl, rfl⟩ ⟨rfl, rfl, by decide, by decide⟩ ⟨by show k ≤ 600000; omega, by show n ≤ 7302250; omega⟩ (Nat.le_of_ble_eq_true rfl) dL_law_1354 rfl rfl ?_
  refine a_icmp_eq (tgt := 1511) (ft := some ()) (ff := none) (r := some ()) hX dL_law_1357 rfl rfl (if_pos rfl) (fun _ => ?_) (fun h => by cases h)
  refine a_wid (k2 := k + 2) (n2 := n + 162) (by omega) (by omega) ?_
  exact ih qC ts uC' uM' hR' rfl
theorem lc_35 {Rel : List Tx → St → St → Prop} (TA : TAll Rel) {X : Cx} {V : Vx} {g : Nat → Nat} {b L : Nat} {xs : Nat → Int32} (hX : OK X code 4 RL room_1 V) (hE : EnvL V g b L xs) {qC qM : Nat → Nat} {ts : List Tx} {uC uM : St} (hR : Rel ts uC uM) {x3 : Int32} (hin : Ins x3 L) {k n : Nat} (hk : k + 2 ≤ 600000 ∧ n + 162 ≤ 7302250) (ih : ∀ (q' : Nat → Nat) (ts' : List Tx) (uC' uM' : St), Rel ts' uC' uM' → q' 11 = qC 11 → At X 4 (k + 2) (n + 162) (wC V q' ts' uC' ++ wM V qM uM') 1511 [(0, .ref b), (1, .ref (qC 11)), (2, .ref (qM 0)), (3, .int x3)] []) : At X 4 k n (wC V qC ts uC ++ wM V qM uM) 1362 [(0, .ref b), (1, .ref (qC 11)), (2, .ref (qM 0)), (3, .int x3)] [] := by
  obtain ⟨r, uC', uM', hC, hM, hR'⟩ := tA_copy TA ts uC uM (xs (Int32.toNatClampNeg (x3 + 1))) (xs (Int32.toNatClampNeg (x3 + 2))) (xs (Int32.toNatClampNeg (x3 + 3))) (xs (Int32.toNatClampNeg (x3 + 4))) (xs (Int32.toNatClampNeg (x3 + 5))) hR
  refine a_aload_n hX dL_law_1362 rfl 1 rfl rfl ?_
  refine a_aload_n hX dL_law_1363 rfl 0 rfl rfl ?_
  refine a_iload_n hX dL_law_1364 rfl 3 rfl rfl ?_
  refine a_iconst (v := 1) hX dL_law_1365 (by decide) rfl ?_
  refine a_iadd hX dL_law_1366 rfl ?_
  refine a_sld hX hE hin.2.1 dL_law_1367 rfl ?_
  refine a_aload_n hX dL_law_1368 rfl 0 rfl rfl ?_
  refine a_iload_n hX dL_law_1369 rfl 3 rfl rfl ?_
  refine a_iconst (v := 2) hX dL_law_1370 (by decide) rfl ?_
  refine a_iadd hX dL_law_1371 rfl ?_
  refine a_sld hX hE hin.2.2.1 dL_law_1372 rfl ?_
  refine a_aload_n hX dL_law_1373 rfl 0 rfl rfl ?_
  refine a_iload_n hX dL_law_1374 rfl 3 rfl rfl ?_
  refine a_iconst (v := 3) hX dL_law_1375 (by decide) rfl ?_
  refine a_iadd hX dL_law_1376 rfl ?_
  refine a_sld hX hE hin.2.2.2.1 dL_law_1377 rfl ?_
  refine a_aload_n hX dL_law_1378 rfl 0 rfl rfl ?_
  refine a_iload_n hX dL_law_1379 rfl 3 rfl rfl ?_
  refine a_iconst (v := 4) hX dL_law_1380 (by decide) rfl ?_
  refine a_iadd hX dL_law_1381 rfl ?_
  refine a_sld hX hE hin.2.2.2.2.1 dL_law_1382 rfl ?_
  refine a_aload_n hX dL_law_1383 rfl 0 rfl rfl ?_
  refine a_iload_n hX dL_law_1384 rfl 3 rfl rfl ?_
  refine a_iconst (v := 5) hX dL_law_1385 (by decide) rfl ?_
  refine a_iadd hX dL_law_1386 rfl ?_
  refine a_sld hX hE hin.2.2.2.2.2 dL_law_1387 rfl ?_
  refine a_LC (q0 := 0) (rest := []) hX hE.1 (ctX11_copy (q := qC) hE.c hC) K_L_173 ⟨rfl, rfl⟩ ⟨rfl, rfl, by decide, by decide⟩ ⟨by show k ≤ 600000; omega, by show n ≤ 7302250; omega⟩ (Nat.le_of_ble_eq_true rfl) dL_law_1388 rfl rfl ?_
  refine a_aload_n hX dL_law_1391 rfl 2 rfl rfl ?_
  refine a_aload_n hX dL_law_1392 rfl 0 rfl rfl ?_
  refine a_iload_n hX dL_law_1393 rfl 3 rfl rfl ?_
  refine a_iconst (v := 1) hX dL_law_1394 (by decide) rfl ?_
  refine a_iadd hX dL_law_1395 rfl ?_
  refine a_sld hX hE hin.2.1 dL_law_1396 rfl ?_
  refine a_aload_n hX dL_law_1397 rfl 0 rfl rfl ?_
  refine a_iload_n hX dL_law_1398 rfl 3 rfl rfl ?_
  refine a_iconst (v := 2) hX dL_law_1399 (by decide) rfl ?_
  refine a_iadd hX dL_law_1400 rfl ?_
  refine a_sld hX hE hin.2.2.1 dL_law_1401 rfl ?_
  refine a_aload_n hX dL_law_1402 rfl 0 rfl rfl ?_
  refine a_iload_n hX dL_law_1403 rfl 3 rfl rfl ?_
  refine a_iconst (v := 3) hX dL_law_1404 (by decide) rfl ?_
  refine a_iadd hX dL_law_1405 rfl ?_
  refine a_sld hX hE hin.2.2.2.1 dL_law_1406 rfl ?_
  refine a_aload_n hX dL_law_1407 rfl 0 rfl rfl ?_
  refine a_iload_n hX dL_law_1408 rfl 3 rfl rfl ?_
  refine a_iconst (v := 4) hX dL_law_1409 (by decide) rfl ?_
  refine a_iadd hX dL_law_1410 rfl ?_
  refine a_sld hX hE hin.2.2.2.2.1 dL_law_1411 rfl ?_
  refine a_aload_n hX dL_law_1412 rfl 0 rfl rfl ?_
  refine a_iload_n hX dL_law_1413 rfl 3 rfl rfl ?_
  refine a_iconst (v := 5) hX dL_law_1414 (by decide) rfl ?_
  refine a_iadd hX dL_law_1415 rfl ?_
  refine a_sld hX hE hin.2.2.2.2.2 dL_law_1416 rfl ?_
  refine a_LM (q0 := 0) (rest := [.int (r)]) hX hE.1 (ctX12_copy (q := qM) hE.1 hM) K_L_176 ⟨rfl, rfl⟩ ⟨rfl, rfl, by decide, by decide⟩ ⟨by show k ≤ 600000; omega, by show n ≤ 7302250; omega⟩ (Nat.le_of_ble_eq_true rfl) dL_law_1417 rfl rfl ?_
  refine a_icmp_eq (tgt := 1511) (ft := some ()) (ff := none) (r := some ()) hX dL_law_1420 rfl rfl (if_pos rfl) (fun _ => ?_) (fun h => by cases h)
  refine a_wid (k2 := k + 2) (n2 := n + 162) (by omega) (by omega) ?_
  exact ih qC ts uC' uM' hR' rfl
theorem lc_36 {Rel : List Tx → St → St → Prop} (TA : TAll Rel) {X : Cx} {V : Vx} {g : Nat → Nat} {b L : Nat} {xs : Nat → Int32} (hX : OK X code 4 RL room_1 V) (hE : EnvL V g b L xs) {qC qM : Nat → Nat} {ts : List Tx} {uC uM : St} (hR : Rel ts uC uM) {x3 : Int32} (hin : Ins x3 L) {k n : Nat} (hk : k + 2 ≤ 600000 ∧ n + 162 ≤ 7302250) (ih : ∀ (q' : Nat → Nat) (ts' : List Tx) (uC' uM' : St), Rel ts' uC' uM' → q' 11 = qC 11 → At X 4 (k + 2) (n + 162) (wC V q' ts' uC' ++ wM V qM uM') 1511 [(0, .ref b), (1, .ref (qC 11)), (2, .ref (qM 0)), (3, .int x3)] []) : At X 4 k n (wC V qC ts uC ++ wM V qM uM) 1425 [(0, .ref b), (1, .ref (qC 11)), (2, .ref (qM 0)), (3, .int x3)] [] := by
  obtain ⟨r, uC', uM', hC, hM, hR'⟩ := tA_papers TA ts uC uM (xs (Int32.toNatClampNeg (x3 + 1))) (xs (Int32.toNatClampNeg (x3 + 2))) (xs (Int32.toNatClampNeg (x3 + 3))) (xs (Int32.toNatClampNeg (x3 + 4))) hR
  refine a_aload_n hX dL_law_1425 rfl 1 rfl rfl ?_
  refine a_aload_n hX dL_law_1426 rfl 0 rfl rfl ?_
  refine a_iload_n hX dL_law_1427 rfl 3 rfl rfl ?_
  refine a_iconst (v := 1) hX dL_law_1428 (by decide) rfl ?_
  refine a_iadd hX dL_law_1429 rfl ?_
  refine a_sld hX hE hin.2.1 dL_law_1430 rfl ?_
  refine a_aload_n hX dL_law_1431 rfl 0 rfl rfl ?_
  refine a_iload_n hX dL_law_1432 rfl 3 rfl rfl ?_
  refine a_iconst (v := 2) hX dL_law_1433 (by decide) rfl ?_
  refine a_iadd hX dL_law_1434 rfl ?_
  refine a_sld hX hE hin.2.2.1 dL_law_1435 rfl ?_
  refine a_aload_n hX dL_law_1436 rfl 0 rfl rfl ?_
  refine a_iload_n hX dL_law_1437 rfl 3 rfl rfl ?_
  refine a_iconst (v := 3) hX dL_law_1438 (by decide) rfl ?_
  refine a_iadd hX dL_law_1439 rfl ?_
  refine a_sld hX hE hin.2.2.2.1 dL_law_1440 rfl ?_
  refine a_aload_n hX dL_law_1441 rfl 0 rfl rfl ?_
  refine a_iload_n hX dL_law_1442 rfl 3 rfl rfl ?_
  refine a_iconst (v := 4) hX dL_law_1443 (by decide) rfl ?_
  refine a_iadd hX dL_law_1444 rfl ?_
  refine a_sld hX hE hin.2.2.2.2.1 dL_law_1445 rfl ?_
  refine a_LC (q0 := 0) (rest := []) hX hE.1 (ctX11_papers (q := qC) hE.c hC) K_L_177 ⟨rfl, rfl⟩ ⟨rfl, rfl, by decide, by decide⟩ ⟨by show k ≤ 600000; omega, by show n ≤ 7302250; omega⟩ (Nat.le_of_ble_eq_true rfl) dL_law_1446 rfl rfl ?_
  refine a_aload_n hX dL_law_1449 rfl 2 rfl rfl ?_
  refine a_aload_n hX dL_law_1450 rfl 0 rfl rfl ?_
  refine a_iload_n hX dL_law_1451 rfl 3 rfl rfl ?_
  refine a_iconst (v := 1) hX dL_law_1452 (by decide) rfl ?_
  refine a_iadd hX dL_law_1453 rfl ?_
  refine a_sld hX hE hin.2.1 dL_law_1454 rfl ?_
  refine a_aload_n hX dL_law_1455 rfl 0 rfl rfl ?_
  refine a_iload_n hX dL_law_1456 rfl 3 rfl rfl ?_
  refine a_iconst (v := 2) hX dL_law_1457 (by decide) rfl ?_
  refine a_iadd hX dL_law_1458 rfl ?_
  refine a_sld hX hE hin.2.2.1 dL_law_1459 rfl ?_
  refine a_aload_n hX dL_law_1460 rfl 0 rfl rfl ?_
  refine a_iload_n hX dL_law_1461 rfl 3 rfl rfl ?_
  refine a_iconst (v := 3) hX dL_law_1462 (by decide) rfl ?_
  refine a_iadd hX dL_law_1463 rfl ?_
  refine a_sld hX hE hin.2.2.2.1 dL_law_1464 rfl ?_
  refine a_aload_n hX dL_law_1465 rfl 0 rfl rfl ?_
  refine a_iload_n hX dL_law_1466 rfl 3 rfl rfl ?_
  refine a_iconst (v := 4) hX dL_law_1467 (by decide) rfl ?_
  refine a_iadd hX dL_law_1468 rfl ?_
  refine a_sld hX hE hin.2.2.2.2.1 dL_law_1469 rfl ?_
  refine a_LM (q0 := 0) (rest := [.int (r)]) hX hE.1 (ctX12_papers (q := qM) hE.1 hM) K_L_180 ⟨rfl, rfl⟩ ⟨rfl, rfl, by decide, by decide⟩ ⟨by show k ≤ 600000; omega, by show n ≤ 7302250; omega⟩ (Nat.le_of_ble_eq_true rfl) dL_law_1470 rfl rfl ?_
  refine a_icmp_eq (tgt := 1511) (ft := some ()) (ff := none) (r := some ()) hX dL_law_1473 rfl rfl (if_pos rfl) (fun _ => ?_) (fun h => by cases h)
  refine a_wid (k2 := k + 2) (n2 := n + 162) (by omega) (by omega) ?_
  exact ih qC ts uC' uM' hR' rfl
theorem lc_37 {Rel : List Tx → St → St → Prop} (TA : TAll Rel) {X : Cx} {V : Vx} {g : Nat → Nat} {b L : Nat} {xs : Nat → Int32} (hX : OK X code 4 RL room_1 V) (hE : EnvL V g b L xs) {qC qM : Nat → Nat} {ts : List Tx} {uC uM : St} (hR : Rel ts uC uM) {x3 : Int32} (hin : Ins x3 L) {k n : Nat} (hk : k + 2 ≤ 600000 ∧ n + 162 ≤ 7302250) (ih : ∀ (q' : Nat → Nat) (ts' : List Tx) (uC' uM' : St), Rel ts' uC' uM' → q' 11 = qC 11 → At X 4 (k + 2) (n + 162) (wC V q' ts' uC' ++ wM V qM uM') 1511 [(0, .ref b), (1, .ref (qC 11)), (2, .ref (qM 0)), (3, .int x3)] []) : At X 4 k n (wC V qC ts uC ++ wM V qM uM) 1478 [(0, .ref b), (1, .ref (qC 11)), (2, .ref (qM 0)), (3, .int x3)] [] := by
  obtain ⟨r, hC, hM, hR'⟩ := tA_taken TA ts uC uM (xs (Int32.toNatClampNeg (x3 + 1))) (xs (Int32.toNatClampNeg (x3 + 2))) hR
  refine a_aload_n hX dL_law_1478 rfl 1 rfl rfl ?_
  refine a_aload_n hX dL_law_1479 rfl 0 rfl rfl ?_
  refine a_iload_n hX dL_law_1480 rfl 3 rfl rfl ?_
  refine a_iconst (v := 1) hX dL_law_1481 (by decide) rfl ?_
  refine a_iadd hX dL_law_1482 rfl ?_
  refine a_sld hX hE hin.2.1 dL_law_1483 rfl ?_
  refine a_aload_n hX dL_law_1484 rfl 0 rfl rfl ?_
  refine a_iload_n hX dL_law_1485 rfl 3 rfl rfl ?_
  refine a_iconst (v := 2) hX dL_law_1486 (by decide) rfl ?_
  refine a_iadd hX dL_law_1487 rfl ?_
  refine a_sld hX hE hin.2.2.1 dL_law_1488 rfl ?_
  refine a_LC (q0 := 0) (rest := []) hX hE.1 (ctX11_taken (q := qC) hE.c hC) K_L_181 ⟨rfl, rfl⟩ ⟨rfl, rfl, by decide, by decide⟩ ⟨by show k ≤ 600000; omega, by show n ≤ 7302250; omega⟩ (Nat.le_of_ble_eq_true rfl) dL_law_1489 rfl rfl ?_
  refine a_aload_n hX dL_law_1492 rfl 2 rfl rfl ?_
  refine a_aload_n hX dL_law_1493 rfl 0 rfl rfl ?_
  refine a_iload_n hX dL_law_1494 rfl 3 rfl rfl ?_
  refine a_iconst (v := 1) hX dL_law_1495 (by decide) rfl ?_
  refine a_iadd hX dL_law_1496 rfl ?_
  refine a_sld hX hE hin.2.1 dL_law_1497 rfl ?_
  refine a_aload_n hX dL_law_1498 rfl 0 rfl rfl ?_
  refine a_iload_n hX dL_law_1499 rfl 3 rfl rfl ?_
  refine a_iconst (v := 2) hX dL_law_1500 (by decide) rfl ?_
  refine a_iadd hX dL_law_1501 rfl ?_
  refine a_sld hX hE hin.2.2.1 dL_law_1502 rfl ?_
  refine a_LM (q0 := 0) (rest := [.int (r)]) hX hE.1 (ctX12_taken (q := qM) hE.1 hM) K_L_184 ⟨rfl, rfl⟩ ⟨rfl, rfl, by decide, by decide⟩ ⟨by show k ≤ 600000; omega, by show n ≤ 7302250; omega⟩ (Nat.le_of_ble_eq_true rfl) dL_law_1503 rfl rfl ?_
  refine a_icmp_eq (tgt := 1511) (ft := some ()) (ff := none) (r := some ()) hX dL_law_1506 rfl rfl (if_pos rfl) (fun _ => ?_) (fun h => by cases h)
  refine a_wid (k2 := k + 2) (n2 := n + 162) (by omega) (by omega) ?_
  exact ih qC ts uC uM hR' rfl
