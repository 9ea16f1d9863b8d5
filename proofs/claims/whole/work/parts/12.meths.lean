def mI (id : Nat) : MethodName × ByteArray × Nat × Option FieldType × Nat := mIs.getD id (⟨"", "", ""⟩, ByteArray.empty, 0, none, 99)
def pMM : pMT := (fun id => (mI id).1, fun id => (mI id).2.1, fun id => (mI id).2.2.1, fun id => (mI id).2.2.2.1, fun id => (mI id).2.2.2.2)
def pNN : pMC := (fun id => cds.getD id [], fun ow idx => (rss.getD ow []).lookup idx, fun id => (mI id).1.name == "<init>")
